def KEEP (mo mo' : Nat → Int32) : Prop := ∀ j, j ≠ 9 → j ≠ 11 → j ≠ 12 → j ≠ 14 → j ≠ 15 → mo' j = mo j
theorem sub16 : ∀ d, d < 16 → nI d - nI 16 < nI 0 := by decide +kernel
theorem t187 (mo mlat mmem mopd mfu mfv mfi : Nat → Int32) {d : Nat} (h : d < 26) (h2 : d ≠ 25) : f_Mo_trigger_187 mo mlat mmem mopd mfu mfv mfi (nI d) = some (mo, mmem, mfu, mfv, mfi) := by
  unfold f_Mo_trigger_187; simp (disch := omega) only [lI, nI_add, pk_mul, nI_leI, nI_ltI, nI_eq, ck_n, nm_n, nI_clamp, Option.bind_some, if_pos, if_neg, bk_n0, bk_n1, nI_sub, upd_s, mi_e, mi_ne, mi_ne2, mi_lt, mi_le, mi_nle, mi_nlt, mi_s, bt_shrE, bit_e, true_and, and_true, if_true, if_false, ne_eq, not_true_eq_false, not_false_eq_true, Bool.false_eq_true, Bool.true_eq_false, reduceCtorEq]
theorem t168 (mo mlat mmem mopd mfu mfv mfi : Nat → Int32) (x : Int32) {d : Nat} (h : d < 24) : f_Mo_trigger_168 mo mlat mmem mopd mfu mfv mfi (nI d) x = some (mo, mmem, mfu, mfv, mfi) := by
  unfold f_Mo_trigger_168; simp (disch := omega) only [lI, nI_add, pk_mul, nI_leI, nI_ltI, nI_eq, ck_n, nm_n, nI_clamp, Option.bind_some, if_pos, if_neg, bk_n0, bk_n1, nI_sub, upd_s, mi_e, mi_ne, mi_ne2, mi_lt, mi_le, mi_nle, mi_nlt, mi_s, bt_shrE, bit_e, true_and, and_true, if_true, if_false, ne_eq, not_true_eq_false, not_false_eq_true, Bool.false_eq_true, Bool.true_eq_false, reduceCtorEq, t187]
theorem t100a (mo mlat mmem mopd mfu mfv mfi : Nat → Int32) (x v : Int32) {d : Nat} (h : d < 16) : f_Mo_trigger_100 mo mlat mmem mopd mfu mfv mfi (nI d) x v = some (mo, mmem, mfu, mfv, mfi) := by
  unfold f_Mo_trigger_100
  have : nI d - nI 16 < 0 := sub16 d h
  rw [show (16 : Int32) = nI 16 from rfl, nm_n, if_pos this, t168 _ _ _ _ _ _ _ _ (by omega)]
theorem t100b (mo mlat mmem mopd mfu mfv mfi : Nat → Int32) (x v : Int32) {d : Nat} (h : d < 26) (h2 : 24 ≤ d) : f_Mo_trigger_100 mo mlat mmem mopd mfu mfv mfi (nI d) x v = f_Mo_trigger_168 mo mlat mmem mopd mfu mfv mfi (nI d) x := by
  unfold f_Mo_trigger_100
  simp (disch := omega) only [lI, nI_add, pk_mul, nI_leI, nI_ltI, nI_eq, ck_n, nm_n, nI_clamp, Option.bind_some, if_pos, if_neg, bk_n0, bk_n1, nI_sub, upd_s, mi_e, mi_ne, mi_ne2, mi_lt, mi_le, mi_nle, mi_nlt, mi_s, bt_shrE, bit_e, true_and, and_true, if_true, if_false, ne_eq, not_true_eq_false, not_false_eq_true, Bool.false_eq_true, Bool.true_eq_false, reduceCtorEq]
theorem t84a (mo mlat mmem mopd mfu mfv mfi : Nat → Int32) (x v : Int32) {d : Nat} (h : d < 26) (h2 : d ≠ 15) : f_Mo_trigger_84 mo mlat mmem mopd mfu mfv mfi (nI d) x v = f_Mo_trigger_100 mo mlat mmem mopd mfu mfv mfi (nI d) x v := by
  unfold f_Mo_trigger_84; simp (disch := omega) only [lI, nI_add, pk_mul, nI_leI, nI_ltI, nI_eq, ck_n, nm_n, nI_clamp, Option.bind_some, if_pos, if_neg, bk_n0, bk_n1, nI_sub, upd_s, mi_e, mi_ne, mi_ne2, mi_lt, mi_le, mi_nle, mi_nlt, mi_s, bt_shrE, bit_e, true_and, and_true, if_true, if_false, ne_eq, not_true_eq_false, not_false_eq_true, Bool.false_eq_true, Bool.true_eq_false, reduceCtorEq]
theorem t64a (mo mlat mmem mopd mfu mfv mfi : Nat → Int32) (x v : Int32) {d : Nat} (h : d < 26) (h2 : d ≠ 14) : f_Mo_trigger_64 mo mlat mmem mopd mfu mfv mfi (nI d) x v = f_Mo_trigger_84 mo mlat mmem mopd mfu mfv mfi (nI d) x v := by
  unfold f_Mo_trigger_64; simp (disch := omega) only [lI, nI_add, pk_mul, nI_leI, nI_ltI, nI_eq, ck_n, nm_n, nI_clamp, Option.bind_some, if_pos, if_neg, bk_n0, bk_n1, nI_sub, upd_s, mi_e, mi_ne, mi_ne2, mi_lt, mi_le, mi_nle, mi_nlt, mi_s, bt_shrE, bit_e, true_and, and_true, if_true, if_false, ne_eq, not_true_eq_false, not_false_eq_true, Bool.false_eq_true, Bool.true_eq_false, reduceCtorEq]
theorem t50a (mo mlat mmem mopd mfu mfv mfi : Nat → Int32) (x v : Int32) {d : Nat} (h : d < 26) (h2 : d ≠ 13) : f_Mo_trigger_50 mo mlat mmem mopd mfu mfv mfi (nI d) x v = f_Mo_trigger_64 mo mlat mmem mopd mfu mfv mfi (nI d) x v := by
  unfold f_Mo_trigger_50; simp (disch := omega) only [lI, nI_add, pk_mul, nI_leI, nI_ltI, nI_eq, ck_n, nm_n, nI_clamp, Option.bind_some, if_pos, if_neg, bk_n0, bk_n1, nI_sub, upd_s, mi_e, mi_ne, mi_ne2, mi_lt, mi_le, mi_nle, mi_nlt, mi_s, bt_shrE, bit_e, true_and, and_true, if_true, if_false, ne_eq, not_true_eq_false, not_false_eq_true, Bool.false_eq_true, Bool.true_eq_false, reduceCtorEq]
theorem t36a (mo mlat mmem mopd mfu mfv mfi : Nat → Int32) (x v : Int32) {d : Nat} (h : d < 26) (h2 : d ≠ 12) : f_Mo_trigger_36 mo mlat mmem mopd mfu mfv mfi (nI d) x v = f_Mo_trigger_50 mo mlat mmem mopd mfu mfv mfi (nI d) x v := by
  unfold f_Mo_trigger_36; simp (disch := omega) only [lI, nI_add, pk_mul, nI_leI, nI_ltI, nI_eq, ck_n, nm_n, nI_clamp, Option.bind_some, if_pos, if_neg, bk_n0, bk_n1, nI_sub, upd_s, mi_e, mi_ne, mi_ne2, mi_lt, mi_le, mi_nle, mi_nlt, mi_s, bt_shrE, bit_e, true_and, and_true, if_true, if_false, ne_eq, not_true_eq_false, not_false_eq_true, Bool.false_eq_true, Bool.true_eq_false, reduceCtorEq]
theorem t22a (mo mlat mmem mopd mfu mfv mfi : Nat → Int32) (x v : Int32) {d : Nat} (h : d < 26) (h2 : d ≠ 11) : f_Mo_trigger_22 mo mlat mmem mopd mfu mfv mfi (nI d) x v = f_Mo_trigger_36 mo mlat mmem mopd mfu mfv mfi (nI d) x v := by
  unfold f_Mo_trigger_22; simp (disch := omega) only [lI, nI_add, pk_mul, nI_leI, nI_ltI, nI_eq, ck_n, nm_n, nI_clamp, Option.bind_some, if_pos, if_neg, bk_n0, bk_n1, nI_sub, upd_s, mi_e, mi_ne, mi_ne2, mi_lt, mi_le, mi_nle, mi_nlt, mi_s, bt_shrE, bit_e, true_and, and_true, if_true, if_false, ne_eq, not_true_eq_false, not_false_eq_true, Bool.false_eq_true, Bool.true_eq_false, reduceCtorEq]
/-- behind all that begins work or stores -/
theorem t22b (mo mlat mmem mopd mfu mfv mfi : Nat → Int32) (x v : Int32) {d : Nat} (h : d < 26) (h2 : 16 ≤ d) : f_Mo_trigger_22 mo mlat mmem mopd mfu mfv mfi (nI d) x v = f_Mo_trigger_100 mo mlat mmem mopd mfu mfv mfi (nI d) x v := by
  rw [t22a _ _ _ _ _ _ _ _ _ h (by omega), t36a _ _ _ _ _ _ _ _ _ h (by omega), t50a _ _ _ _ _ _ _ _ _ h (by omega), t64a _ _ _ _ _ _ _ _ _ h (by omega), t84a _ _ _ _ _ _ _ _ _ h (by omega)]
theorem t_u (mo mlat mmem mopd mfu mfv mfi : Nat → Int32) (x : Int32) {d u : Nat} (hu : u < 3) (h : f_Mo_unitOf (nI d) = some (nI u)) : f_Mo_trigger mo mlat mmem mopd mfu mfv mfi (nI d) x = f_Mo_trigger_22 mo mlat mmem mopd mfu mfv mfi (nI d) x (mopd u) := by
  unfold f_Mo_trigger; simp (disch := omega) only [lI, nI_add, pk_mul, nI_leI, nI_ltI, nI_eq, ck_n, nm_n, nI_clamp, Option.bind_some, if_pos, if_neg, bk_n0, bk_n1, nI_sub, upd_s, mi_e, mi_ne, mi_ne2, mi_lt, mi_le, mi_nle, mi_nlt, mi_s, bt_shrE, bit_e, true_and, and_true, if_true, if_false, ne_eq, not_true_eq_false, not_false_eq_true, Bool.false_eq_true, Bool.true_eq_false, reduceCtorEq, h]
theorem t_m (mo mlat mmem mopd mfu mfv mfi : Nat → Int32) (x : Int32) {d : Nat} (h : f_Mo_unitOf (nI d) = some mi) : f_Mo_trigger mo mlat mmem mopd mfu mfv mfi (nI d) x = f_Mo_trigger_22 mo mlat mmem mopd mfu mfv mfi (nI d) x 0 := by
  unfold f_Mo_trigger; simp (disch := omega) only [lI, nI_add, pk_mul, nI_leI, nI_ltI, nI_eq, ck_n, nm_n, nI_clamp, Option.bind_some, if_pos, if_neg, bk_n0, bk_n1, nI_sub, upd_s, mi_e, mi_ne, mi_ne2, mi_lt, mi_le, mi_nle, mi_nlt, mi_s, bt_shrE, bit_e, true_and, and_true, if_true, if_false, ne_eq, not_true_eq_false, not_false_eq_true, Bool.false_eq_true, Bool.true_eq_false, reduceCtorEq, h]
theorem unitOf_m : ∀ d, 24 ≤ d → d < 26 → f_Mo_unitOf (nI d) = some mi := by
  have : ∀ d, d < 26 → 24 ≤ d → f_Mo_unitOf (nI d) = some mi := by decide +kernel
  exact fun d h1 h2 => this d h2 h1
theorem unitOf_0 : ∀ d, d < 24 → 16 ≤ d → f_Mo_unitOf (nI d) = some (nI 0) := by decide +kernel
set_option maxHeartbeats 4000000 in
theorem trig_n {Lt : Nat → Nat} {lat mlat : Nat → Int32} (hL : LL Lt lat mlat) {l : List T3} {sl : Nat} {ma od rs wo cm mo mreg mmem mopd mres mhad mfu mfv mfi : Nat → Int32} (hR : RM ma od rs mo mopd mres mhad) (hW : RW wo mreg mmem) (hP : PDs Lt l sl ma cm mo mfu mfv mfi) {d : Nat} (h11 : 11 ≤ d) (h25 : d ≤ 25) (hno : ∀ u, UN d = some u → ∀ v, (u, Lt u, v) ∉ l) (x : Int32) :
    ∃ ma' wo' cm' mo' mmem' mfu' mfv' mfi' l', f_Ma_pull lat ma wo od cm (nI d) x = some (ma', wo', cm') ∧ f_Mo_trigger mo mlat mmem mopd mfu mfv mfi (nI d) x = some (mo', mmem', mfu', mfv', mfi') ∧ RM ma' od rs mo' mopd mres mhad ∧ RW wo' mreg mmem' ∧ PDs Lt l' sl ma' cm' mo' mfu' mfv' mfi' ∧ (∀ u v, (u, Lt u, v) ∈ l' → (u, Lt u, v) ∈ l ∨ UN d = some u) ∧ ma' 12 = ma 12 ∧ KEEP mo mo' := by
  have o0 := hR.1 0 (by omega)
  have o1 := hR.1 1 (by omega)
  have o2 := hR.1 2 (by omega)
  have keepS : ∀ (y z : Int32), RM (upd ma 8 y) od rs (upd mo 15 z) mopd mres mhad := fun y z => hR
  have beg : ∀ (u : Nat), u < 3 → UN d = some u → ∀ v : Int32, (∀ (y z : Int32) (cm' mfu' mfv' mfi' : Nat → Int32), f_Ma_begin lat ma cm (nI u) v = some (upd ma 8 y, cm') → f_Mo_fly mo mlat mfu mfv mfi (nI u) v = some (upd mo 15 z, mfu', mfv', mfi') → f_Ma_pull lat ma wo od cm (nI d) x = some (upd ma 8 y, wo, cm') ∧ f_Mo_trigger mo mlat mmem mopd mfu mfv mfi (nI d) x = some (upd mo 15 z, mmem, mfu', mfv', mfi')) → ∃ ma' wo' cm' mo' mmem' mfu' mfv' mfi' l', f_Ma_pull lat ma wo od cm (nI d) x = some (ma', wo', cm') ∧ f_Mo_trigger mo mlat mmem mopd mfu mfv mfi (nI d) x = some (mo', mmem', mfu', mfv', mfi') ∧ RM ma' od rs mo' mopd mres mhad ∧ RW wo' mreg mmem' ∧ PDs Lt l' sl ma' cm' mo' mfu' mfv' mfi' ∧ (∀ u v, (u, Lt u, v) ∈ l' → (u, Lt u, v) ∈ l ∨ UN d = some u) ∧ ma' 12 = ma 12 ∧ KEEP mo mo' := fun u hu hun v hcalc => by
    obtain ⟨y, z, cm', mfu', mfv', mfi', p1, p2, p3⟩ := begin_n hL hP hu (hno u hun) v
    obtain ⟨q1, q2⟩ := hcalc y z cm' mfu' mfv' mfi' p1 p2
    refine ⟨_, _, _, _, _, _, _, _, _, q1, q2, keepS y z, hW, p3, fun w v' hw => ?_, rfl, fun j _ _ _ _ h => upd_n h⟩
    rcases List.mem_append.mp hw with hw | hw
    · exact Or.inl hw
    · have := List.mem_singleton.mp hw
      simp only [Prod.mk.injEq] at this
      rw [this.1]; exact Or.inr hun
  have gd : ∀ (t : Nat), t < 4 → ∀ z : Bool, f_Ma_pull lat ma wo od cm (nI d) x = some (upd ma 11 (if z = true then ma 11 ||| bit t else ma 11 &&& (bit t ^^^ mi)), wo, cm) → f_Mo_trigger mo mlat mmem mopd mfu mfv mfi (nI d) x = some (upd mo 9 (if z = true then mo 9 ||| bit t else mo 9 &&& (bit t ^^^ mi)), mmem, mfu, mfv, mfi) → ∃ ma' wo' cm' mo' mmem' mfu' mfv' mfi' l', f_Ma_pull lat ma wo od cm (nI d) x = some (ma', wo', cm') ∧ f_Mo_trigger mo mlat mmem mopd mfu mfv mfi (nI d) x = some (mo', mmem', mfu', mfv', mfi') ∧ RM ma' od rs mo' mopd mres mhad ∧ RW wo' mreg mmem' ∧ PDs Lt l' sl ma' cm' mo' mfu' mfv' mfi' ∧ (∀ u v, (u, Lt u, v) ∈ l' → (u, Lt u, v) ∈ l ∨ UN d = some u) ∧ ma' 12 = ma 12 ∧ KEEP mo mo' := fun t ht z q1 q2 => by
    refine ⟨_, _, _, _, _, _, _, _, l, q1, q2, ?_, hW, hP, fun u v h => Or.inl h, rfl, fun j h9 _ _ _ _ => upd_n h9⟩
    obtain ⟨r1, r2, r3, r4, r5, r6⟩ := hR
    refine ⟨r1, r2, r3, r4, ?_, r6⟩
    rw [upd_s, upd_s, r5]
  rcases (show d = 11 ∨ d = 12 ∨ d = 13 ∨ d = 14 ∨ d = 15 ∨ (16 ≤ d ∧ d < 20) ∨ (20 ≤ d ∧ d < 24) ∨ d = 24 ∨ d = 25 by omega) with rfl | rfl | rfl | rfl | rfl | hd | hd | rfl | rfl
  · refine beg 0 (by omega) rfl (mopd 0 + x) (fun y z cm' mfu' mfv' mfi' p1 p2 => ⟨?_, ?_⟩)
    · unfold f_Ma_pull; simp (disch := omega) only [lI, nI_add, pk_mul, nI_leI, nI_ltI, nI_eq, ck_n, nm_n, nI_clamp, Option.bind_some, if_pos, if_neg, bk_n0, bk_n1, nI_sub, upd_s, mi_e, mi_ne, mi_ne2, mi_lt, mi_le, mi_nle, mi_nlt, mi_s, bt_shrE, bit_e, true_and, and_true, if_true, if_false, ne_eq, not_true_eq_false, not_false_eq_true, Bool.false_eq_true, Bool.true_eq_false, reduceCtorEq, o0, p1]
    · rw [t_u _ _ _ _ _ _ _ _ (u := 0) (by omega) (by decide +kernel)]
      unfold f_Mo_trigger_22
      simp (disch := omega) only [lI, nI_add, pk_mul, nI_leI, nI_ltI, nI_eq, ck_n, nm_n, nI_clamp, Option.bind_some, if_pos, if_neg, bk_n0, bk_n1, nI_sub, upd_s, mi_e, mi_ne, mi_ne2, mi_lt, mi_le, mi_nle, mi_nlt, mi_s, bt_shrE, bit_e, true_and, and_true, if_true, if_false, ne_eq, not_true_eq_false, not_false_eq_true, Bool.false_eq_true, Bool.true_eq_false, reduceCtorEq, p2, t36a, t50a, t64a, t84a, t100a]
  · refine beg 0 (by omega) rfl (mopd 0 - x) (fun y z cm' mfu' mfv' mfi' p1 p2 => ⟨?_, ?_⟩)
    · unfold f_Ma_pull; simp (disch := omega) only [lI, nI_add, pk_mul, nI_leI, nI_ltI, nI_eq, ck_n, nm_n, nI_clamp, Option.bind_some, if_pos, if_neg, bk_n0, bk_n1, nI_sub, upd_s, mi_e, mi_ne, mi_ne2, mi_lt, mi_le, mi_nle, mi_nlt, mi_s, bt_shrE, bit_e, true_and, and_true, if_true, if_false, ne_eq, not_true_eq_false, not_false_eq_true, Bool.false_eq_true, Bool.true_eq_false, reduceCtorEq, o0, p1]
    · rw [t_u _ _ _ _ _ _ _ _ (u := 0) (by omega) (by decide +kernel), t22a _ _ _ _ _ _ _ _ _ (by omega) (by omega)]
      unfold f_Mo_trigger_36
      simp (disch := omega) only [lI, nI_add, pk_mul, nI_leI, nI_ltI, nI_eq, ck_n, nm_n, nI_clamp, Option.bind_some, if_pos, if_neg, bk_n0, bk_n1, nI_sub, upd_s, mi_e, mi_ne, mi_ne2, mi_lt, mi_le, mi_nle, mi_nlt, mi_s, bt_shrE, bit_e, true_and, and_true, if_true, if_false, ne_eq, not_true_eq_false, not_false_eq_true, Bool.false_eq_true, Bool.true_eq_false, reduceCtorEq, p2, t50a, t64a, t84a, t100a]
  · refine beg 1 (by omega) rfl (mopd 1 * x) (fun y z cm' mfu' mfv' mfi' p1 p2 => ⟨?_, ?_⟩)
    · unfold f_Ma_pull; simp (disch := omega) only [lI, nI_add, pk_mul, nI_leI, nI_ltI, nI_eq, ck_n, nm_n, nI_clamp, Option.bind_some, if_pos, if_neg, bk_n0, bk_n1, nI_sub, upd_s, mi_e, mi_ne, mi_ne2, mi_lt, mi_le, mi_nle, mi_nlt, mi_s, bt_shrE, bit_e, true_and, and_true, if_true, if_false, ne_eq, not_true_eq_false, not_false_eq_true, Bool.false_eq_true, Bool.true_eq_false, reduceCtorEq, o1, p1]
    · rw [t_u _ _ _ _ _ _ _ _ (u := 1) (by omega) (by decide +kernel), t22a _ _ _ _ _ _ _ _ _ (by omega) (by omega), t36a _ _ _ _ _ _ _ _ _ (by omega) (by omega)]
      unfold f_Mo_trigger_50
      simp (disch := omega) only [lI, nI_add, pk_mul, nI_leI, nI_ltI, nI_eq, ck_n, nm_n, nI_clamp, Option.bind_some, if_pos, if_neg, bk_n0, bk_n1, nI_sub, upd_s, mi_e, mi_ne, mi_ne2, mi_lt, mi_le, mi_nle, mi_nlt, mi_s, bt_shrE, bit_e, true_and, and_true, if_true, if_false, ne_eq, not_true_eq_false, not_false_eq_true, Bool.false_eq_true, Bool.true_eq_false, reduceCtorEq, p2, t64a, t84a, t100a]
  · obtain ⟨j, hj, e1, e2⟩ := mplace x
    have e3 := hW.2 j hj
    refine beg 2 (by omega) rfl (mmem j) (fun y z cm' mfu' mfv' mfi' p1 p2 => ⟨?_, ?_⟩)
    · unfold f_Ma_pull; simp (disch := omega) only [lI, nI_add, pk_mul, nI_leI, nI_ltI, nI_eq, ck_n, nm_n, nI_clamp, Option.bind_some, if_pos, if_neg, bk_n0, bk_n1, nI_sub, upd_s, mi_e, mi_ne, mi_ne2, mi_lt, mi_le, mi_nle, mi_nlt, mi_s, bt_shrE, bit_e, true_and, and_true, if_true, if_false, ne_eq, not_true_eq_false, not_false_eq_true, Bool.false_eq_true, Bool.true_eq_false, reduceCtorEq, e2, e3, p1]
    · rw [t_u _ _ _ _ _ _ _ _ (u := 2) (by omega) (by decide +kernel), t22a _ _ _ _ _ _ _ _ _ (by omega) (by omega), t36a _ _ _ _ _ _ _ _ _ (by omega) (by omega), t50a _ _ _ _ _ _ _ _ _ (by omega) (by omega)]
      unfold f_Mo_trigger_64
      simp (disch := omega) only [lI, nI_add, pk_mul, nI_leI, nI_ltI, nI_eq, ck_n, nm_n, nI_clamp, Option.bind_some, if_pos, if_neg, bk_n0, bk_n1, nI_sub, upd_s, mi_e, mi_ne, mi_ne2, mi_lt, mi_le, mi_nle, mi_nlt, mi_s, bt_shrE, bit_e, true_and, and_true, if_true, if_false, ne_eq, not_true_eq_false, not_false_eq_true, Bool.false_eq_true, Bool.true_eq_false, reduceCtorEq, e1, p2, t84a, t100a]
  · obtain ⟨j, hj, e1, e2⟩ := mplace (mopd 2)
    refine ⟨ma, upd wo (8 + j) x, cm, mo, upd mmem j x, mfu, mfv, mfi, l, ?_, ?_, hR, ?_, hP, fun u v h => Or.inl h, rfl, fun j _ _ _ _ _ => rfl⟩
    · unfold f_Ma_pull; simp (disch := omega) only [lI, nI_add, pk_mul, nI_leI, nI_ltI, nI_eq, ck_n, nm_n, nI_clamp, Option.bind_some, if_pos, if_neg, bk_n0, bk_n1, nI_sub, upd_s, mi_e, mi_ne, mi_ne2, mi_lt, mi_le, mi_nle, mi_nlt, mi_s, bt_shrE, bit_e, true_and, and_true, if_true, if_false, ne_eq, not_true_eq_false, not_false_eq_true, Bool.false_eq_true, Bool.true_eq_false, reduceCtorEq, o2, e2]
    · rw [t_u _ _ _ _ _ _ _ _ (u := 2) (by omega) (by decide +kernel), t22a _ _ _ _ _ _ _ _ _ (by omega) (by omega), t36a _ _ _ _ _ _ _ _ _ (by omega) (by omega), t50a _ _ _ _ _ _ _ _ _ (by omega) (by omega), t64a _ _ _ _ _ _ _ _ _ (by omega) (by omega)]
      unfold f_Mo_trigger_84
      simp (disch := omega) only [lI, nI_add, pk_mul, nI_leI, nI_ltI, nI_eq, ck_n, nm_n, nI_clamp, Option.bind_some, if_pos, if_neg, bk_n0, bk_n1, nI_sub, upd_s, mi_e, mi_ne, mi_ne2, mi_lt, mi_le, mi_nle, mi_nlt, mi_s, bt_shrE, bit_e, true_and, and_true, if_true, if_false, ne_eq, not_true_eq_false, not_false_eq_true, Bool.false_eq_true, Bool.true_eq_false, reduceCtorEq, e1, t100a]
    · have := (RW_upd hW (show 8 + j < 72 by omega) x).2 (by omega)
      rw [show 8 + j - 8 = j by omega] at this
      exact this
  · have em : (d - 16) % 4 = d - 16 := by omega
    have tt : f_Mo_trigger mo mlat mmem mopd mfu mfv mfi (nI d) x = f_Mo_trigger_100 mo mlat mmem mopd mfu mfv mfi (nI d) x (mopd 0) := by
      rw [t_u _ _ _ _ _ _ _ _ (u := 0) (by omega) (unitOf_0 d (by omega) (by omega)), t22b _ _ _ _ _ _ _ _ _ (by omega) (by omega)]
    rw [tt] at gd ⊢
    unfold f_Mo_trigger_100 at gd ⊢
    by_cases hx : mopd 0 = x
    · refine gd (d - 16) (by omega) true ?_ ?_
      · have := setG_n ma (show d - 16 < 4 by omega) true
        rw [b2i_t] at this
        unfold f_Ma_pull; simp (disch := omega) only [lI, nI_add, pk_mul, nI_leI, nI_ltI, nI_eq, ck_n, nm_n, nI_clamp, Option.bind_some, if_pos, if_neg, bk_n0, bk_n1, nI_sub, upd_s, mi_e, mi_ne, mi_ne2, mi_lt, mi_le, mi_nle, mi_nlt, mi_s, bt_shrE, bit_e, true_and, and_true, if_true, if_false, ne_eq, not_true_eq_false, not_false_eq_true, Bool.false_eq_true, Bool.true_eq_false, reduceCtorEq, o0, hx, this]
      · simp (disch := omega) only [lI, nI_add, pk_mul, nI_leI, nI_ltI, nI_eq, ck_n, nm_n, nI_clamp, Option.bind_some, if_pos, if_neg, bk_n0, bk_n1, nI_sub, upd_s, mi_e, mi_ne, mi_ne2, mi_lt, mi_le, mi_nle, mi_nlt, mi_s, bt_shrE, bit_e, true_and, and_true, if_true, if_false, ne_eq, not_true_eq_false, not_false_eq_true, Bool.false_eq_true, Bool.true_eq_false, reduceCtorEq, hx, pk_rem, em, t168]
    · refine gd (d - 16) (by omega) false ?_ ?_
      · have := setG_n ma (show d - 16 < 4 by omega) false
        rw [b2i_f] at this
        unfold f_Ma_pull; simp (disch := omega) only [lI, nI_add, pk_mul, nI_leI, nI_ltI, nI_eq, ck_n, nm_n, nI_clamp, Option.bind_some, if_pos, if_neg, bk_n0, bk_n1, nI_sub, upd_s, mi_e, mi_ne, mi_ne2, mi_lt, mi_le, mi_nle, mi_nlt, mi_s, bt_shrE, bit_e, true_and, and_true, if_true, if_false, ne_eq, not_true_eq_false, not_false_eq_true, Bool.false_eq_true, Bool.true_eq_false, reduceCtorEq, o0, hx, this]
      · simp (disch := omega) only [lI, nI_add, pk_mul, nI_leI, nI_ltI, nI_eq, ck_n, nm_n, nI_clamp, Option.bind_some, if_pos, if_neg, bk_n0, bk_n1, nI_sub, upd_s, mi_e, mi_ne, mi_ne2, mi_lt, mi_le, mi_nle, mi_nlt, mi_s, bt_shrE, bit_e, true_and, and_true, if_true, if_false, ne_eq, not_true_eq_false, not_false_eq_true, Bool.false_eq_true, Bool.true_eq_false, reduceCtorEq, hx, pk_rem, em, t168]
  · have em : (d - 16) % 4 = d - 20 := by omega
    have tt : f_Mo_trigger mo mlat mmem mopd mfu mfv mfi (nI d) x = f_Mo_trigger_100 mo mlat mmem mopd mfu mfv mfi (nI d) x (mopd 0) := by
      rw [t_u _ _ _ _ _ _ _ _ (u := 0) (by omega) (unitOf_0 d (by omega) (by omega)), t22b _ _ _ _ _ _ _ _ _ (by omega) (by omega)]
    rw [tt] at gd ⊢
    unfold f_Mo_trigger_100 at gd ⊢
    by_cases hx : x ≤ mopd 0
    · refine gd (d - 20) (by omega) false ?_ ?_
      · have := setG_n ma (show d - 20 < 4 by omega) false
        rw [b2i_f] at this
        unfold f_Ma_pull f_Ma_pull_151; simp (disch := omega) only [lI, nI_add, pk_mul, nI_leI, nI_ltI, nI_eq, ck_n, nm_n, nI_clamp, Option.bind_some, if_pos, if_neg, bk_n0, bk_n1, nI_sub, upd_s, mi_e, mi_ne, mi_ne2, mi_lt, mi_le, mi_nle, mi_nlt, mi_s, bt_shrE, bit_e, true_and, and_true, if_true, if_false, ne_eq, not_true_eq_false, not_false_eq_true, Bool.false_eq_true, Bool.true_eq_false, reduceCtorEq, o0, hx, this]
      · simp (disch := omega) only [lI, nI_add, pk_mul, nI_leI, nI_ltI, nI_eq, ck_n, nm_n, nI_clamp, Option.bind_some, if_pos, if_neg, bk_n0, bk_n1, nI_sub, upd_s, mi_e, mi_ne, mi_ne2, mi_lt, mi_le, mi_nle, mi_nlt, mi_s, bt_shrE, bit_e, true_and, and_true, if_true, if_false, ne_eq, not_true_eq_false, not_false_eq_true, Bool.false_eq_true, Bool.true_eq_false, reduceCtorEq, hx, pk_rem, em, t168]
    · refine gd (d - 20) (by omega) true ?_ ?_
      · have := setG_n ma (show d - 20 < 4 by omega) true
        rw [b2i_t] at this
        unfold f_Ma_pull f_Ma_pull_151; simp (disch := omega) only [lI, nI_add, pk_mul, nI_leI, nI_ltI, nI_eq, ck_n, nm_n, nI_clamp, Option.bind_some, if_pos, if_neg, bk_n0, bk_n1, nI_sub, upd_s, mi_e, mi_ne, mi_ne2, mi_lt, mi_le, mi_nle, mi_nlt, mi_s, bt_shrE, bit_e, true_and, and_true, if_true, if_false, ne_eq, not_true_eq_false, not_false_eq_true, Bool.false_eq_true, Bool.true_eq_false, reduceCtorEq, o0, hx, this]
      · simp (disch := omega) only [lI, nI_add, pk_mul, nI_leI, nI_ltI, nI_eq, ck_n, nm_n, nI_clamp, Option.bind_some, if_pos, if_neg, bk_n0, bk_n1, nI_sub, upd_s, mi_e, mi_ne, mi_ne2, mi_lt, mi_le, mi_nle, mi_nlt, mi_s, bt_shrE, bit_e, true_and, and_true, if_true, if_false, ne_eq, not_true_eq_false, not_false_eq_true, Bool.false_eq_true, Bool.true_eq_false, reduceCtorEq, hx, pk_rem, em, t168]
  · obtain ⟨j, hj, e1⟩ := bt_63 x
    refine ⟨upd (upd ma 13 (nI 3)) 14 (nI j), wo, cm, upd (upd mo 11 (nI 3)) 12 (nI j), mmem, mfu, mfv, mfi, l, ?_, ?_, ?_, hW, hP, fun u v h => Or.inl h, rfl, fun j _ h11 h12 _ _ => by rw [upd_n h12, upd_n h11]⟩
    · unfold f_Ma_pull f_Ma_pull_151 f_Ma_pull_189 f_Md_wrapCycle
      rw [e1]
      simp (disch := omega) only [lI, nI_add, pk_mul, nI_leI, nI_ltI, nI_eq, ck_n, nm_n, nI_clamp, Option.bind_some, if_pos, if_neg, bk_n0, bk_n1, nI_sub, upd_s, mi_e, mi_ne, mi_ne2, mi_lt, mi_le, mi_nle, mi_nlt, mi_s, bt_shrE, bit_e, true_and, and_true, if_true, if_false, ne_eq, not_true_eq_false, not_false_eq_true, Bool.false_eq_true, Bool.true_eq_false, reduceCtorEq]
    · rw [t_m _ _ _ _ _ _ _ _ (unitOf_m 24 (by omega) (by omega)), t22b _ _ _ _ _ _ _ _ _ (by omega) (by omega), t100b _ _ _ _ _ _ _ _ _ (by omega) (by omega)]
      unfold f_Mo_trigger_168
      rw [e1]
      simp (disch := omega) only [lI, nI_add, pk_mul, nI_leI, nI_ltI, nI_eq, ck_n, nm_n, nI_clamp, Option.bind_some, if_pos, if_neg, bk_n0, bk_n1, nI_sub, upd_s, mi_e, mi_ne, mi_ne2, mi_lt, mi_le, mi_nle, mi_nlt, mi_s, bt_shrE, bit_e, true_and, and_true, if_true, if_false, ne_eq, not_true_eq_false, not_false_eq_true, Bool.false_eq_true, Bool.true_eq_false, reduceCtorEq, t187]
    · obtain ⟨r1, r2, r3, r4, r5, r6, r7, r8⟩ := hR
      exact ⟨r1, r2, r3, r4, r5, r6, ⟨3, by omega, rfl, rfl, fun _ => ⟨j, hj, rfl, rfl⟩⟩, r8⟩
  · refine ⟨upd ma 15 (nI 1), wo, cm, upd mo 14 (nI 1), mmem, mfu, mfv, mfi, l, ?_, ?_, ?_, hW, hP, fun u v h => Or.inl h, rfl, fun j _ _ _ h14 _ => upd_n h14⟩
    · unfold f_Ma_pull f_Ma_pull_151 f_Ma_pull_189; simp (disch := omega) only [lI, nI_add, pk_mul, nI_leI, nI_ltI, nI_eq, ck_n, nm_n, nI_clamp, Option.bind_some, if_pos, if_neg, bk_n0, bk_n1, nI_sub, upd_s, mi_e, mi_ne, mi_ne2, mi_lt, mi_le, mi_nle, mi_nlt, mi_s, bt_shrE, bit_e, true_and, and_true, if_true, if_false, ne_eq, not_true_eq_false, not_false_eq_true, Bool.false_eq_true, Bool.true_eq_false, reduceCtorEq]
    · rw [t_m _ _ _ _ _ _ _ _ (unitOf_m 25 (by omega) (by omega)), t22b _ _ _ _ _ _ _ _ _ (by omega) (by omega), t100b _ _ _ _ _ _ _ _ _ (by omega) (by omega)]
      unfold f_Mo_trigger_168 f_Mo_trigger_187
      simp (disch := omega) only [lI, nI_add, pk_mul, nI_leI, nI_ltI, nI_eq, ck_n, nm_n, nI_clamp, Option.bind_some, if_pos, if_neg, bk_n0, bk_n1, nI_sub, upd_s, mi_e, mi_ne, mi_ne2, mi_lt, mi_le, mi_nle, mi_nlt, mi_s, bt_shrE, bit_e, true_and, and_true, if_true, if_false, ne_eq, not_true_eq_false, not_false_eq_true, Bool.false_eq_true, Bool.true_eq_false, reduceCtorEq]
    · obtain ⟨r1, r2, r3, r4, r5, r6, r7, r8⟩ := hR
      exact ⟨r1, r2, r3, r4, r5, r6, r7, ⟨1, by omega, rfl, rfl⟩⟩
