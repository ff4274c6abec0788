/-- all that a run keeps -/
def RS (Lt : Nat → Nat) (ma wo od rs cm mo mreg mmem mopd mres mhad mfu mfv mfi : Nat → Int32) : Prop := RM ma od rs mo mopd mres mhad ∧ RW wo mreg mmem ∧ PDR Lt ma cm mo mfu mfv mfi
theorem try_n {B : Nat} {K : KT} {Lt : Nat → Nat} {r_co ta gu so cn de mc lat mlat ma bu wo od rs ca cm mo mreg mmem mopd mres mhad mfu mfv mfi md va : Nat → Int32} (hK : RC B K ta gu so cn de mc) (hB : r_co 0 = nI B) (hB2 : mo 1 = nI B) (hL : LL Lt lat mlat) (hS : RS Lt ma wo od rs cm mo mreg mmem mopd mres mhad mfu mfv mfi) :
    ∃ f md' y j, f ≤ 4 ∧ f_Mo_choose mo mc md (mo 10) (mo 9) = some md' ∧ f_Mo_hads mo mhad = some y ∧ (mo 11 ≤ 0 ↔ j = false) ∧ f_Mo_faultOf mo mc md' (mo 10) y (b2i j) = some (nI f) ∧ (f ≠ 0 → ∃ bu', f_Ma_tryCycle lat r_co ta gu so cn de ma bu wo od rs ca cm = some (nI f, ma, bu', wo, od, rs, ca, cm)) ∧ (f = 0 → ∃ ma' bu' wo' od' rs' ca' cm' mo' mreg' mmem' mopd' mres' mhad' mfu' mfv' mfi' va', f_Ma_tryCycle lat r_co ta gu so cn de ma bu wo od rs ca cm = some (nI 0, ma', bu', wo', od', rs', ca', cm') ∧ f_Mo_makeCycle (upd mo 13 (nI 0)) mlat mc mreg mmem mopd mres mhad mfu mfv mfi md' va = some (mo', mreg', mmem', mopd', mres', mhad', mfu', mfv', mfi', va') ∧ RS Lt ma' wo' od' rs' cm' mo' mreg' mmem' mopd' mres' mhad' mfu' mfv' mfi' ∧ ∀ k, k ≠ 9 → k ≠ 10 → k ≠ 11 → k ≠ 12 → k ≠ 14 → k ≠ 15 → mo' k = upd mo 13 (nI 0) k) := by
  obtain ⟨hR, hW, hP⟩ := hS
  have hR' := hR
  obtain ⟨r1, r2, r3, r4, r5, ⟨p, hp, r6, r6'⟩, ⟨j, hj, r7, r7', r7''⟩, r8⟩ := hR'
  obtain ⟨md', c1, c2⟩ := choose_n (md := md) hK hB2 hp (mo 9)
  obtain ⟨y, y1, y2⟩ := hads_n mo mhad r3
  have hMC := MC_mv hK hp (mo 9)
  have hd : ∀ b, b < 4 → ∀ s k d, mv K p (mo 9) b = some (s, k, d) → d ≤ 25 := fun b hb s k d hM => (hMC b hb s k d hM).2.2.2.2.2.2.2
  obtain ⟨m, m1, m2, m3⟩ := madeWith_n hK hB hp (mo 9)
  have hR13 : RM ma od rs (upd mo 13 (nI 0)) mopd mres mhad := hR
  have hP13 : PDR Lt ma cm (upd mo 13 (nI 0)) mfu mfv mfi := hP
  refine ⟨FTb (mv K p (mo 9)) (bt y) (decide (0 < j)), md', y, decide (0 < j), FTb_le _ _ _, by rw [r6']; exact c1, y1, ?_, ?_, ?_, ?_⟩
  · rw [r7', show (0 : Int32) = nI 0 from rfl, nI_leI (by omega) (by omega), decide_eq_false_iff_not]; omega
  · rw [r6']; exact mfault_n hMC hp c2 y _
  · intro hf
    by_cases hm0 : m = nI 0
    · exfalso
      apply hf
      apply FTb_empty
      intro b hb
      have := m2 b hb
      have hz : bt m b = false := by rw [hm0]; exact bt_zero b
      rw [hz] at this
      rcases hM : mv K p (mo 9) b with _ | q
      · rfl
      · rw [hM] at this; cases this
    · obtain ⟨mm, hmm, em, hbm⟩ := bt_small 4 m3
      obtain ⟨bu', g1, g2⟩ := gather_n (r_co := r_co) (bu := bu) hMC hp hmm (fun b hb => by rw [← hbm b (by omega)]; exact m2 b hb)
      have hfa := fault_n hd g2 (ma 10) (decide (0 < j))
      rw [FTb_congr (h' := bt y) (fun u hu => (y2 u hu).symm)] at hfa
      refine ⟨bu', ?_⟩
      have hf4 := FTb_le (mv K p (mo 9)) (bt y) (decide (0 < j))
      unfold f_Ma_tryCycle f_Ma_tryCycle_60
      rw [← em] at g1
      by_cases hj0 : 0 < j
      · have e1 : decide (0 < j) = true := decide_eq_true hj0
        rw [e1] at hfa hf4 hf ⊢
        rw [b2i_t] at hfa
        simp (disch := omega) only [lI, nI_add, pk_mul, nI_leI, nI_ltI, nI_eq, ck_n, nm_n, nI_clamp, Option.bind_some, if_pos, if_neg, bk_n0, bk_n1, nI_sub, upd_s, mi_e, mi_ne, mi_ne2, mi_lt, mi_le, mi_nle, mi_nlt, mi_s, bt_shrE, bit_e, true_and, and_true, if_true, if_false, ne_eq, not_true_eq_false, not_false_eq_true, Bool.false_eq_true, Bool.true_eq_false, reduceCtorEq, r6, r5, m1, hm0, g1, r7, hfa]
      · have e1 : decide (0 < j) = false := decide_eq_false hj0
        rw [e1] at hfa hf4 hf ⊢
        rw [b2i_f] at hfa
        simp (disch := omega) only [lI, nI_add, pk_mul, nI_leI, nI_ltI, nI_eq, ck_n, nm_n, nI_clamp, Option.bind_some, if_pos, if_neg, bk_n0, bk_n1, nI_sub, upd_s, mi_e, mi_ne, mi_ne2, mi_lt, mi_le, mi_nle, mi_nlt, mi_s, bt_shrE, bit_e, true_and, and_true, if_true, if_false, ne_eq, not_true_eq_false, not_false_eq_true, Bool.false_eq_true, Bool.true_eq_false, reduceCtorEq, r6, r5, m1, hm0, g1, r7, hfa]
  · intro hf
    have hcl := FTb_0 hf
    by_cases hm0 : m = nI 0
    · have hx0 : MK (mv K p (mo 9)) (nI 0) := fun b hb => by rw [← hm0]; exact m2 b hb
      obtain ⟨ma', wo', od', rs', ca', cm', mo', mreg', mmem', mopd', mres', mhad', mfu', mfv', mfi', va', q1, q2, q3, q4, q5, q6⟩ := cycle_go (r_co := r_co) (ta := ta) (gu := gu) (bu := bu) (ca := ca) (va := va) hL hMC hp hx0 c2 hcl r6 (show upd mo 13 (nI 0) 10 = nI p from r6') hR13 hW hP13
      refine ⟨ma', bu, wo', od', rs', ca', cm', mo', mreg', mmem', mopd', mres', mhad', mfu', mfv', mfi', va', ?_, q2, ⟨q3, q4, q5⟩, q6⟩
      unfold f_Ma_tryCycle
      rw [goC_0, q1]
      simp (disch := omega) only [lI, nI_add, pk_mul, nI_leI, nI_ltI, nI_eq, ck_n, nm_n, nI_clamp, Option.bind_some, if_pos, if_neg, bk_n0, bk_n1, nI_sub, upd_s, mi_e, mi_ne, mi_ne2, mi_lt, mi_le, mi_nle, mi_nlt, mi_s, bt_shrE, bit_e, true_and, and_true, if_true, if_false, ne_eq, not_true_eq_false, not_false_eq_true, Bool.false_eq_true, Bool.true_eq_false, reduceCtorEq, r6, r5, m1, hm0]
    · obtain ⟨mm, hmm, em, hbm⟩ := bt_small 4 m3
      obtain ⟨bu', g1, g2⟩ := gather_n (r_co := r_co) (bu := bu) hMC hp hmm (fun b hb => by rw [← hbm b (by omega)]; exact m2 b hb)
      have hfa := fault_n hd g2 (ma 10) (decide (0 < j))
      rw [FTb_congr (h' := bt y) (fun u hu => (y2 u hu).symm), hf] at hfa
      obtain ⟨ma', wo', od', rs', ca', cm', mo', mreg', mmem', mopd', mres', mhad', mfu', mfv', mfi', va', q1, q2, q3, q4, q5, q6⟩ := cycle_go (r_co := r_co) (ta := ta) (gu := gu) (bu := bu') (ca := ca) (va := va) hL hMC hp m2 c2 hcl r6 (show upd mo 13 (nI 0) 10 = nI p from r6') hR13 hW hP13
      refine ⟨ma', bu', wo', od', rs', ca', cm', mo', mreg', mmem', mopd', mres', mhad', mfu', mfv', mfi', va', ?_, q2, ⟨q3, q4, q5⟩, q6⟩
      unfold goC at q1
      unfold f_Ma_tryCycle
      rw [← em] at g1
      by_cases hj0 : 0 < j
      · have e1 : decide (0 < j) = true := decide_eq_true hj0
        rw [e1, b2i_t] at hfa
        simp (disch := omega) only [lI, nI_add, pk_mul, nI_leI, nI_ltI, nI_eq, ck_n, nm_n, nI_clamp, Option.bind_some, if_pos, if_neg, bk_n0, bk_n1, nI_sub, upd_s, mi_e, mi_ne, mi_ne2, mi_lt, mi_le, mi_nle, mi_nlt, mi_s, bt_shrE, bit_e, true_and, and_true, if_true, if_false, ne_eq, not_true_eq_false, not_false_eq_true, Bool.false_eq_true, Bool.true_eq_false, reduceCtorEq, r6, r5, m1, hm0, g1, r7, hfa, q1]
      · have e1 : decide (0 < j) = false := decide_eq_false hj0
        rw [e1, b2i_f] at hfa
        simp (disch := omega) only [lI, nI_add, pk_mul, nI_leI, nI_ltI, nI_eq, ck_n, nm_n, nI_clamp, Option.bind_some, if_pos, if_neg, bk_n0, bk_n1, nI_sub, upd_s, mi_e, mi_ne, mi_ne2, mi_lt, mi_le, mi_nle, mi_nlt, mi_s, bt_shrE, bit_e, true_and, and_true, if_true, if_false, ne_eq, not_true_eq_false, not_false_eq_true, Bool.false_eq_true, Bool.true_eq_false, reduceCtorEq, r6, r5, m1, hm0, g1, r7, hfa, q1]
set_option maxHeartbeats 4000000 in
theorem run_lp {B : Nat} {K : KT} {Lt : Nat → Nat} {r_co ta gu so cn de mc lat mlat : Nat → Int32} (hK : RC B K ta gu so cn de mc) (hB : r_co 0 = nI B) (hL : LL Lt lat mlat) {N : Nat} (hN : N ≤ 1000) : ∀ (d i n n' : Nat) (r_md ma bu wo od rs ca cm mo mreg mmem mopd mres mhad mfu mfv mfi md va : Nat → Int32), i + d = N → d < n → d < n' → mo 1 = nI B → r_md 6 = mo 13 → RS Lt ma wo od rs cm mo mreg mmem mopd mres mhad mfu mfv mfi → ∃ k r_md' ma' bu' wo' od' rs' ca' cm' mo' mreg' mmem' mopd' mres' mhad' mfu' mfv' mfi' md' va', f_Md_run_25 n r_md lat r_co ta gu so cn de ma bu wo od rs ca cm (nI N) (nI i) = some (0, k, r_md', ma', bu', wo', od', rs', ca', cm') ∧ f_Mo_run_36 n' mo mlat mc mreg mmem mopd mres mhad mfu mfv mfi md va (nI N) (nI i) = some (k, mo', mreg', mmem', mopd', mres', mhad', mfu', mfv', mfi', md', va') ∧ RS Lt ma' wo' od' rs' cm' mo' mreg' mmem' mopd' mres' mhad' mfu' mfv' mfi' ∧ r_md' 6 = mo' 13 ∧ (∀ j, j ≠ 6 → r_md' j = r_md j) ∧ (∀ j, j ≠ 9 → j ≠ 10 → j ≠ 11 → j ≠ 12 → j ≠ 13 → j ≠ 14 → j ≠ 15 → mo' j = mo j)
  | 0, i, n + 1, n' + 1, r_md, ma, bu, wo, od, rs, ca, cm, mo, mreg, mmem, mopd, mres, mhad, mfu, mfv, mfi, md, va, hi, hn, hn', hB2, h6, hS => by
    have : i = N := by omega
    subst this
    refine ⟨nI i, r_md, ma, bu, wo, od, rs, ca, cm, mo, mreg, mmem, mopd, mres, mhad, mfu, mfv, mfi, md, va, ?_, ?_, hS, h6, fun _ _ => rfl, fun _ _ _ _ _ _ _ _ => rfl⟩
    · rw [f_Md_run_25]; simp (disch := omega) only [lI, nI_add, pk_mul, nI_leI, nI_ltI, nI_eq, ck_n, nm_n, nI_clamp, Option.bind_some, if_pos, if_neg, bk_n0, bk_n1, nI_sub, upd_s, mi_e, mi_ne, mi_ne2, mi_lt, mi_le, mi_nle, mi_nlt, mi_s, bt_shrE, bit_e, true_and, and_true, if_true, if_false, ne_eq, not_true_eq_false, not_false_eq_true, Bool.false_eq_true, Bool.true_eq_false, reduceCtorEq]
    · rw [f_Mo_run_36]; simp (disch := omega) only [lI, nI_add, pk_mul, nI_leI, nI_ltI, nI_eq, ck_n, nm_n, nI_clamp, Option.bind_some, if_pos, if_neg, bk_n0, bk_n1, nI_sub, upd_s, mi_e, mi_ne, mi_ne2, mi_lt, mi_le, mi_nle, mi_nlt, mi_s, bt_shrE, bit_e, true_and, and_true, if_true, if_false, ne_eq, not_true_eq_false, not_false_eq_true, Bool.false_eq_true, Bool.true_eq_false, reduceCtorEq]
  | d + 1, i, n + 1, n' + 1, r_md, ma, bu, wo, od, rs, ca, cm, mo, mreg, mmem, mopd, mres, mhad, mfu, mfv, mfi, md, va, hi, hn, hn', hB2, h6, hS => by
    rw [f_Md_run_25, f_Mo_run_36]
    unfold f_Ma_isHalted f_Mo_run_88
    obtain ⟨q, hq, e6, e7⟩ := hS.1.2.2.2.2.2.2.2
    rcases (show q = 1 ∨ q = 0 by omega) with rfl | rfl
    · refine ⟨nI i, r_md, ma, bu, wo, od, rs, ca, cm, mo, mreg, mmem, mopd, mres, mhad, mfu, mfv, mfi, md, va, ?_, ?_, hS, h6, fun _ _ => rfl, fun _ _ _ _ _ _ _ _ => rfl⟩
      · simp (disch := omega) only [lI, nI_add, pk_mul, nI_leI, nI_ltI, nI_eq, ck_n, nm_n, nI_clamp, Option.bind_some, if_pos, if_neg, bk_n0, bk_n1, nI_sub, upd_s, mi_e, mi_ne, mi_ne2, mi_lt, mi_le, mi_nle, mi_nlt, mi_s, bt_shrE, bit_e, true_and, and_true, if_true, if_false, ne_eq, not_true_eq_false, not_false_eq_true, Bool.false_eq_true, Bool.true_eq_false, reduceCtorEq, e6]
      · simp (disch := omega) only [lI, nI_add, pk_mul, nI_leI, nI_ltI, nI_eq, ck_n, nm_n, nI_clamp, Option.bind_some, if_pos, if_neg, bk_n0, bk_n1, nI_sub, upd_s, mi_e, mi_ne, mi_ne2, mi_lt, mi_le, mi_nle, mi_nlt, mi_s, bt_shrE, bit_e, true_and, and_true, if_true, if_false, ne_eq, not_true_eq_false, not_false_eq_true, Bool.false_eq_true, Bool.true_eq_false, reduceCtorEq, e7]
    · obtain ⟨f, md', y, j, hf4, a1, a2, a3, a4, a5, a6⟩ := try_n (r_co := r_co) (bu := bu) (ca := ca) (md := md) (va := va) hK hB hB2 hL hS
      by_cases hf : f = 0
      · obtain ⟨ma', bu', wo', od', rs', ca', cm', mo', mreg', mmem', mopd', mres', mhad', mfu', mfv', mfi', va', b1, b2, b3, b4⟩ := a6 hf
        rw [hf] at a4
        obtain ⟨k, r_md2, ma2, bu2, wo2, od2, rs2, ca2, cm2, mo2, mreg2, mmem2, mopd2, mres2, mhad2, mfu2, mfv2, mfi2, md2, va2, c1, c2, c3, c4, c5, c6⟩ := run_lp hK hB hL hN d (i + 1) n n' (upd r_md 6 (nI 0)) ma' bu' wo' od' rs' ca' cm' mo' mreg' mmem' mopd' mres' mhad' mfu' mfv' mfi' md' va' (by omega) (by omega) (by omega) ((b4 1 (by omega) (by omega) (by omega) (by omega) (by omega) (by omega)).trans hB2) ((upd_s r_md 6 _).trans (b4 13 (by omega) (by omega) (by omega) (by omega) (by omega) (by omega)).symm) b3
        refine ⟨k, r_md2, ma2, bu2, wo2, od2, rs2, ca2, cm2, mo2, mreg2, mmem2, mopd2, mres2, mhad2, mfu2, mfv2, mfi2, md2, va2, ?_, ?_, c3, c4, fun j hj => by rw [c5 j hj, upd_n hj], fun j h9 h10 h11 h12 h13 h14 h15 => by rw [c6 j h9 h10 h11 h12 h13 h14 h15, b4 j h9 h10 h11 h12 h14 h15, upd_n h13]⟩
        · simp (disch := omega) only [lI, nI_add, pk_mul, nI_leI, nI_ltI, nI_eq, ck_n, nm_n, nI_clamp, Option.bind_some, if_pos, if_neg, bk_n0, bk_n1, nI_sub, upd_s, mi_e, mi_ne, mi_ne2, mi_lt, mi_le, mi_nle, mi_nlt, mi_s, bt_shrE, bit_e, true_and, and_true, if_true, if_false, ne_eq, not_true_eq_false, not_false_eq_true, Bool.false_eq_true, Bool.true_eq_false, reduceCtorEq, e6, b1, c1]
        · cases j
          · have a3' := a3.mpr rfl
            rw [b2i_f] at a4
            simp (disch := omega) only [lI, nI_add, pk_mul, nI_leI, nI_ltI, nI_eq, ck_n, nm_n, nI_clamp, Option.bind_some, if_pos, if_neg, bk_n0, bk_n1, nI_sub, upd_s, mi_e, mi_ne, mi_ne2, mi_lt, mi_le, mi_nle, mi_nlt, mi_s, bt_shrE, bit_e, true_and, and_true, if_true, if_false, ne_eq, not_true_eq_false, not_false_eq_true, Bool.false_eq_true, Bool.true_eq_false, reduceCtorEq, e7, a1, a2, show (mo 11 ≤ nI 0) = True from eq_true a3', a4, b2, c2]
          · have a3' : ¬ mo 11 ≤ 0 := fun h => by have := a3.mp h; cases this
            rw [b2i_t] at a4
            simp (disch := omega) only [lI, nI_add, pk_mul, nI_leI, nI_ltI, nI_eq, ck_n, nm_n, nI_clamp, Option.bind_some, if_pos, if_neg, bk_n0, bk_n1, nI_sub, upd_s, mi_e, mi_ne, mi_ne2, mi_lt, mi_le, mi_nle, mi_nlt, mi_s, bt_shrE, bit_e, true_and, and_true, if_true, if_false, ne_eq, not_true_eq_false, not_false_eq_true, Bool.false_eq_true, Bool.true_eq_false, reduceCtorEq, e7, a1, a2, show (mo 11 ≤ nI 0) = False from eq_false a3', a4, b2, c2]
      · obtain ⟨bu', b1⟩ := a5 hf
        refine ⟨nI i, upd r_md 6 (nI f), ma, bu', wo, od, rs, ca, cm, upd mo 13 (nI f), mreg, mmem, mopd, mres, mhad, mfu, mfv, mfi, md', va, ?_, ?_, hS, ?_, fun j hj => upd_n hj, fun j _ _ _ _ h13 _ _ => upd_n h13⟩
        · simp (disch := omega) only [lI, nI_add, pk_mul, nI_leI, nI_ltI, nI_eq, ck_n, nm_n, nI_clamp, Option.bind_some, if_pos, if_neg, bk_n0, bk_n1, nI_sub, upd_s, mi_e, mi_ne, mi_ne2, mi_lt, mi_le, mi_nle, mi_nlt, mi_s, bt_shrE, bit_e, true_and, and_true, if_true, if_false, ne_eq, not_true_eq_false, not_false_eq_true, Bool.false_eq_true, Bool.true_eq_false, reduceCtorEq, e6, b1]
        · cases j
          · have a3' := a3.mpr rfl
            rw [b2i_f] at a4
            simp (disch := omega) only [lI, nI_add, pk_mul, nI_leI, nI_ltI, nI_eq, ck_n, nm_n, nI_clamp, Option.bind_some, if_pos, if_neg, bk_n0, bk_n1, nI_sub, upd_s, mi_e, mi_ne, mi_ne2, mi_lt, mi_le, mi_nle, mi_nlt, mi_s, bt_shrE, bit_e, true_and, and_true, if_true, if_false, ne_eq, not_true_eq_false, not_false_eq_true, Bool.false_eq_true, Bool.true_eq_false, reduceCtorEq, e7, a1, a2, show (mo 11 ≤ nI 0) = True from eq_true a3', a4]
          · have a3' : ¬ mo 11 ≤ 0 := fun h => by have := a3.mp h; cases this
            rw [b2i_t] at a4
            simp (disch := omega) only [lI, nI_add, pk_mul, nI_leI, nI_ltI, nI_eq, ck_n, nm_n, nI_clamp, Option.bind_some, if_pos, if_neg, bk_n0, bk_n1, nI_sub, upd_s, mi_e, mi_ne, mi_ne2, mi_lt, mi_le, mi_nle, mi_nlt, mi_s, bt_shrE, bit_e, true_and, and_true, if_true, if_false, ne_eq, not_true_eq_false, not_false_eq_true, Bool.false_eq_true, Bool.true_eq_false, reduceCtorEq, e7, a1, a2, show (mo 11 ≤ nI 0) = False from eq_false a3', a4]
        · rw [upd_s, upd_s]
theorem case_run {B : Nat} {K : KT} {Lt : Nat → Nat} {r_co ta gu so cn de mc lat mlat r_md ma bu wo od rs ca cm mo mreg mmem mopd mres mhad mfu mfv mfi md va : Nat → Int32} {out : Nat → Int64} (hK : RC B K ta gu so cn de mc) (hB : r_co 0 = nI B) (hB2 : mo 1 = nI B) (hL : LL Lt lat mlat) (h6 : r_md 6 = mo 13) (hS : RS Lt ma wo od rs cm mo mreg mmem mopd mres mhad mfu mfv mfi) (v : Int32) :
    ∃ z k r_md' ma' bu' wo' od' rs' ca' cm' out' mo' mreg' mmem' mopd' mres' mhad' mfu' mfv' mfi' md' va', f_La_run r_md lat r_co ta gu so cn de ma bu wo od rs ca cm out v = some (z, r_md', ma', bu', wo', od', rs', ca', cm', out') ∧ f_Mo_run mo mlat mc mreg mmem mopd mres mhad mfu mfv mfi md va v = some (k, mo', mreg', mmem', mopd', mres', mhad', mfu', mfv', mfi', md', va') ∧ mo' 0 = z ∧ (z = 0 → out' 0 = k.toInt64) ∧ RS Lt ma' wo' od' rs' cm' mo' mreg' mmem' mopd' mres' mhad' mfu' mfv' mfi' ∧ r_md' 6 = mo' 13 ∧ (∀ j, j ≠ 6 → r_md' j = r_md j) ∧ (∀ j, j ≠ 0 → j ≠ 9 → j ≠ 10 → j ≠ 11 → j ≠ 12 → j ≠ 13 → j ≠ 14 → j ≠ 15 → mo' j = mo j) := by
  rcases within_cases v (n := 1000) (by omega) with ⟨e, hv⟩ | ⟨N, hN, rfl, e⟩
  · refine ⟨1, 0, r_md, ma, bu, wo, od, rs, ca, cm, out, upd mo 0 1, mreg, mmem, mopd, mres, mhad, mfu, mfv, mfi, md, va, ?_, ?_, upd_s mo 0 1, ?_, hS, h6, fun _ _ => rfl, fun j h0 _ _ _ _ _ _ _ => upd_n h0⟩
    · unfold f_La_run f_Md_run
      rw [show (1000 : Int32) = nI 1000 from rfl, e]; rfl
    · unfold f_Mo_run
      have e2 : f_Mo_run_20 (upd mo 0 1) mlat mc mreg mmem mopd mres mhad mfu mfv mfi md va v = some (0, upd mo 0 1, mreg, mmem, mopd, mres, mhad, mfu, mfv, mfi, md, va) := by
        unfold f_Mo_run_20; rw [upd_s]; rfl
      by_cases h0 : v < 0
      · rw [if_pos h0, e2]
      · have h1 : ¬ v ≤ 1000 := Int32.not_le.mpr (hv.resolve_left h0)
        rw [if_neg h0, if_neg h1, e2]
    · intro hc; exact absurd hc (show ¬ (1 : Int32) = 0 by decide)
  · obtain ⟨k, r_md2, ma2, bu2, wo2, od2, rs2, ca2, cm2, mo2, mreg2, mmem2, mopd2, mres2, mhad2, mfu2, mfv2, mfi2, md2, va2, c1, c2, c3, c4, c5, c6⟩ := run_lp hK hB hL hN N 0 5000 5000 (upd r_md 6 (nI 0)) ma bu wo od rs ca cm (upd (upd mo 0 (nI 0)) 13 (nI 0)) mreg mmem mopd mres mhad mfu mfv mfi md va (by omega) (by omega) (by omega) hB2 rfl hS
    refine ⟨0, k, r_md2, ma2, bu2, wo2, od2, rs2, ca2, cm2, vp_updL out 0 k.toInt64, mo2, mreg2, mmem2, mopd2, mres2, mhad2, mfu2, mfv2, mfi2, md2, va2, ?_, ?_, ?_, fun _ => updL_s out 0 _, c3, c4, fun j hj => by rw [c5 j hj, upd_n hj], fun j h0 h9 h10 h11 h12 h13 h14 h15 => by rw [c6 j h9 h10 h11 h12 h13 h14 h15, upd_n h13, upd_n h0]⟩
    · unfold f_La_run f_Md_run
      rw [show (1000 : Int32) = nI 1000 from rfl, e]
      simp only [lI] at c1
      simp (disch := omega) only [lI, nI_add, pk_mul, nI_leI, nI_ltI, nI_eq, ck_n, nm_n, nI_clamp, Option.bind_some, if_pos, if_neg, bk_n0, bk_n1, nI_sub, upd_s, mi_e, mi_ne, mi_ne2, mi_lt, mi_le, mi_nle, mi_nlt, mi_s, bt_shrE, bit_e, true_and, and_true, if_true, if_false, ne_eq, not_true_eq_false, not_false_eq_true, Bool.false_eq_true, Bool.true_eq_false, reduceCtorEq, c1]
    · unfold f_Mo_run f_Mo_run_20
      simp (disch := omega) only [lI, nI_add, pk_mul, nI_leI, nI_ltI, nI_eq, ck_n, nm_n, nI_clamp, Option.bind_some, if_pos, if_neg, bk_n0, bk_n1, nI_sub, upd_s, mi_e, mi_ne, mi_ne2, mi_lt, mi_le, mi_nle, mi_nlt, mi_s, bt_shrE, bit_e, true_and, and_true, if_true, if_false, ne_eq, not_true_eq_false, not_false_eq_true, Bool.false_eq_true, Bool.true_eq_false, reduceCtorEq, c2]
    · rw [c6 0 (by omega) (by omega) (by omega) (by omega) (by omega) (by omega) (by omega)]; rfl
