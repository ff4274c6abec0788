-- ===== the planner's start =====
theorem ps65 {bs rr hr lw lr : Nat → Int32} : ∀ (d i n : Nat) (lt lm : Nat → Int32), i + d = 3 → d < n → ∃ lt' lm', f_Pl_start_65 n bs rr hr lw lr lt lm (nI i) = some (bs, rr, hr, lw, lr, lt', lm') ∧ (∀ u, i ≤ u → u < 3 → lt' u = mi ∧ lm' u = mi) ∧ ∀ u, u < i → lt' u = lt u ∧ lm' u = lm u
  | 0, i, n + 1, lt, lm, hi, hn => ⟨lt, lm, by rw [f_Pl_start_65]; simp (disch := omega) only [lI, nI_add, pk_mul, nI_leI, nI_ltI, nI_eq, ck_n, nm_n, nI_clamp, Option.bind_some, if_pos, if_neg, bk_n0, bk_n1, nI_sub, upd_s, mi_e, mi_ne, mi_ne2, mi_lt, mi_le, mi_nle, mi_nlt, mi_s, bt_shrE, bit_e, true_and, and_true, if_true, if_false, ne_eq, not_true_eq_false, not_false_eq_true, Bool.false_eq_true, Bool.true_eq_false, reduceCtorEq], fun u h1 h2 => by omega, fun u _ => ⟨rfl, rfl⟩⟩
  | d + 1, i, n + 1, lt, lm, hi, hn => by
    obtain ⟨lt', lm', q1, q2, q3⟩ := ps65 (bs := bs) (rr := rr) (hr := hr) (lw := lw) (lr := lr) d (i + 1) n (upd lt i mi) (upd lm i mi) (by omega) (by omega)
    refine ⟨lt', lm', ?_, fun u h1 h2 => ?_, fun u hu => ?_⟩
    · rw [f_Pl_start_65]; simp (disch := omega) only [lI, nI_add, pk_mul, nI_leI, nI_ltI, nI_eq, ck_n, nm_n, nI_clamp, Option.bind_some, if_pos, if_neg, bk_n0, bk_n1, nI_sub, upd_s, mi_e, mi_ne, mi_ne2, mi_lt, mi_le, mi_nle, mi_nlt, mi_s, bt_shrE, bit_e, true_and, and_true, if_true, if_false, ne_eq, not_true_eq_false, not_false_eq_true, Bool.false_eq_true, Bool.true_eq_false, reduceCtorEq, q1]
    · by_cases e : u = i
      · subst e
        obtain ⟨z1, z2⟩ := q3 u (by omega)
        rw [z1, z2, upd_s, upd_s]; exact ⟨rfl, rfl⟩
      · exact q2 u (by omega) h2
    · obtain ⟨z1, z2⟩ := q3 u (by omega)
      rw [z1, z2, upd_n (by omega), upd_n (by omega)]; exact ⟨rfl, rfl⟩
theorem ps37 {bs rr hr : Nat → Int32} (lt lm : Nat → Int32) : ∀ (d i n : Nat) (lw lr : Nat → Int32), i + d = 8 → d < n → ∃ lw' lr', f_Pl_start_37 n bs rr hr lw lr lt lm (nI i) = f_Pl_start_65 5000 bs rr hr lw' lr' lt lm (nI 0) ∧ (∀ u, i ≤ u → u < 8 → lw' u = mi ∧ lr' u = mi) ∧ ∀ u, u < i → lw' u = lw u ∧ lr' u = lr u
  | 0, i, n + 1, lw, lr, hi, hn => ⟨lw, lr, by rw [f_Pl_start_37]; simp (disch := omega) only [lI, nI_add, pk_mul, nI_leI, nI_ltI, nI_eq, ck_n, nm_n, nI_clamp, Option.bind_some, if_pos, if_neg, bk_n0, bk_n1, nI_sub, upd_s, mi_e, mi_ne, mi_ne2, mi_lt, mi_le, mi_nle, mi_nlt, mi_s, bt_shrE, bit_e, true_and, and_true, if_true, if_false, ne_eq, not_true_eq_false, not_false_eq_true, Bool.false_eq_true, Bool.true_eq_false, reduceCtorEq], fun u h1 h2 => by omega, fun u _ => ⟨rfl, rfl⟩⟩
  | d + 1, i, n + 1, lw, lr, hi, hn => by
    obtain ⟨lt', lm', q1, q2, q3⟩ := ps37 (bs := bs) (rr := rr) (hr := hr) lt lm d (i + 1) n (upd lw i mi) (upd lr i mi) (by omega) (by omega)
    refine ⟨lt', lm', ?_, fun u h1 h2 => ?_, fun u hu => ?_⟩
    · rw [f_Pl_start_37]; simp (disch := omega) only [lI, nI_add, pk_mul, nI_leI, nI_ltI, nI_eq, ck_n, nm_n, nI_clamp, Option.bind_some, if_pos, if_neg, bk_n0, bk_n1, nI_sub, upd_s, mi_e, mi_ne, mi_ne2, mi_lt, mi_le, mi_nle, mi_nlt, mi_s, bt_shrE, bit_e, true_and, and_true, if_true, if_false, ne_eq, not_true_eq_false, not_false_eq_true, Bool.false_eq_true, Bool.true_eq_false, reduceCtorEq, q1]
    · by_cases e : u = i
      · subst e
        obtain ⟨z1, z2⟩ := q3 u (by omega)
        rw [z1, z2, upd_s, upd_s]; exact ⟨rfl, rfl⟩
      · exact q2 u (by omega) h2
    · obtain ⟨z1, z2⟩ := q3 u (by omega)
      rw [z1, z2, upd_n (by omega), upd_n (by omega)]; exact ⟨rfl, rfl⟩
theorem ps2 (lw lr lt lm : Nat → Int32) : ∀ (d i n : Nat) (bs rr hr : Nat → Int32), i + d = 64 → d < n → ∃ bs' rr' hr', f_Pl_start_2 n bs rr hr lw lr lt lm (nI i) = f_Pl_start_37 5000 bs' rr' hr' lw lr lt lm (nI 0) ∧ (∀ u, i ≤ u → u < 64 → bs' u = nI 0 ∧ rr' u = nI 0 ∧ hr' u = nI 0) ∧ ∀ u, u < i → bs' u = bs u ∧ rr' u = rr u ∧ hr' u = hr u
  | 0, i, n + 1, bs, rr, hr, hi, hn => ⟨bs, rr, hr, by rw [f_Pl_start_2]; simp (disch := omega) only [lI, nI_add, pk_mul, nI_leI, nI_ltI, nI_eq, ck_n, nm_n, nI_clamp, Option.bind_some, if_pos, if_neg, bk_n0, bk_n1, nI_sub, upd_s, mi_e, mi_ne, mi_ne2, mi_lt, mi_le, mi_nle, mi_nlt, mi_s, bt_shrE, bit_e, true_and, and_true, if_true, if_false, ne_eq, not_true_eq_false, not_false_eq_true, Bool.false_eq_true, Bool.true_eq_false, reduceCtorEq], fun u h1 h2 => by omega, fun u _ => ⟨rfl, rfl, rfl⟩⟩
  | d + 1, i, n + 1, bs, rr, hr, hi, hn => by
    obtain ⟨bs', rr', hr', q1, q2, q3⟩ := ps2 lw lr lt lm d (i + 1) n (upd bs i (nI 0)) (upd rr i (nI 0)) (upd hr i (nI 0)) (by omega) (by omega)
    refine ⟨bs', rr', hr', ?_, fun u h1 h2 => ?_, fun u hu => ?_⟩
    · rw [f_Pl_start_2]; simp (disch := omega) only [lI, nI_add, pk_mul, nI_leI, nI_ltI, nI_eq, ck_n, nm_n, nI_clamp, Option.bind_some, if_pos, if_neg, bk_n0, bk_n1, nI_sub, upd_s, mi_e, mi_ne, mi_ne2, mi_lt, mi_le, mi_nle, mi_nlt, mi_s, bt_shrE, bit_e, true_and, and_true, if_true, if_false, ne_eq, not_true_eq_false, not_false_eq_true, Bool.false_eq_true, Bool.true_eq_false, reduceCtorEq, q1]
    · by_cases e : u = i
      · subst e
        obtain ⟨z1, z2, z3⟩ := q3 u (by omega)
        rw [z1, z2, z3, upd_s, upd_s, upd_s]; exact ⟨rfl, rfl, rfl⟩
      · exact q2 u (by omega) h2
    · obtain ⟨z1, z2, z3⟩ := q3 u (by omega)
      rw [z1, z2, z3, upd_n (by omega), upd_n (by omega), upd_n (by omega)]; exact ⟨rfl, rfl, rfl⟩
theorem pstart_n (bs rr hr lw lr lt lm : Nat → Int32) : ∃ bs' rr' hr' lw' lr' lt' lm', f_Pl_start bs rr hr lw lr lt lm = some (bs', rr', hr', lw', lr', lt', lm') ∧ (∀ c, c < 64 → bs' c = nI 0 ∧ rr' c = nI 0 ∧ hr' c = nI 0) ∧ (∀ k, k < 8 → lw' k = mi ∧ lr' k = mi) ∧ ∀ u, u < 3 → lt' u = mi ∧ lm' u = mi := by
  obtain ⟨bs', rr', hr', a1, a2, _⟩ := ps2 lw lr lt lm 64 0 5000 bs rr hr (by omega) (by omega)
  obtain ⟨lw', lr', b1, b2, _⟩ := ps37 (bs := bs') (rr := rr') (hr := hr') lt lm 8 0 5000 lw lr (by omega) (by omega)
  obtain ⟨lt', lm', c1, c2, _⟩ := ps65 (bs := bs') (rr := rr') (hr := hr') (lw := lw') (lr := lr') 3 0 5000 lt lm (by omega) (by omega)
  exact ⟨bs', rr', hr', lw', lr', lt', lm', a1.trans (b1.trans c1), fun c hc => a2 c (by omega) hc, fun k hk => b2 k (by omega) hk, fun u hu => c2 u (by omega) hu⟩
theorem PI_0 {B : Nat} (hB : BV B) (O : OT) {bs rr hr lw lr lt lm tc rc mlaid mopt mopr : Nat → Int32} (h1 : ∀ c, c < 64 → bs c = nI 0 ∧ rr c = nI 0 ∧ hr c = nI 0) (h2 : ∀ k, k < 8 → lw k = mi ∧ lr k = mi) (h3 : ∀ u, u < 3 → lt u = mi ∧ lm u = mi) (h4 : ∀ j, j < 256 → mlaid (4 * j) = mi) : PI B O 0 0 (fun _ => 0) (fun _ => 0) bs rr hr lw lr lt lm tc rc mlaid mopt mopr := by
  refine ⟨⟨fun c hc b hb => ⟨fun _ => ?_, fun g s k d he => (by cases he)⟩, fun c hc b hb g s k d he => (by cases he), fun c hc => ⟨Nat.zero_le _, fun b hb => ?_⟩⟩, fun e he => by omega, fun c hc => (h1 c hc).1, fun c hc => ⟨fun k hk => ?_, fun k h8 hk => ?_⟩, fun c hc => Or.inr ⟨(h1 c hc).2.2, fun e he => by omega⟩, fun k hk => ?_, fun k hk => ?_, fun u hu => ?_, fun u hu => ?_, fun c hc => absurd rfl hc, by omega⟩
  · have := h4 (4 * c + b) (by omega)
    rw [show 4 * (4 * c + b) = 16 * c + 4 * b by omega] at this
    exact this
  · show (none : Option (Nat × Nat × Int32 × Nat)).isSome = decide (b < 0)
    simp
  · rw [(h1 c hc).2.1, any_empty (M := LM (laidN O (fun _ => 0) (fun _ => 0) 0).1 c) (fun b _ => rfl)]
    exact bt_zero k
  · rw [(h1 c hc).2.1]; exact bt_zero k
  · rw [(h2 k hk).1]; exact MXL_0 _ _
  · rw [(h2 k hk).2]; exact MXL_0 _ _
  · rw [(h3 u hu).1]; exact MXL_0 _ _
  · rw [(h3 u hu).2]; exact MXL_0 _ _
-- ===== all operations =====
theorem c80_no (mo mlat mc mopn mlaid mopt mopr : Nat → Int32) (v1 : Int32) : f_Mo_compile_80 mo mlat mc mopn mlaid mopt mopr v1 (nI 0) = some (0, upd mo 0 1, mc, mlaid, mopt, mopr) := by
  unfold f_Mo_compile_80 f_Mo_compile_94 f_Mo_compile_96 f_Mo_compile_109
  simp (disch := omega) only [lI, nI_add, pk_mul, nI_leI, nI_ltI, nI_eq, ck_n, nm_n, nI_clamp, Option.bind_some, if_pos, if_neg, bk_n0, bk_n1, nI_sub, upd_s, mi_e, mi_ne, mi_ne2, mi_lt, mi_le, mi_nle, mi_nlt, mi_s, bt_shrE, bit_e, true_and, and_true, if_true, if_false, ne_eq, not_true_eq_false, not_false_eq_true, Bool.false_eq_true, Bool.true_eq_false, reduceCtorEq]
set_option maxHeartbeats 4000000 in
theorem plan_lp {B : Nat} (hB : BV B) {O : OT} {L : Nat → Nat} {N : Nat} {lat mlat r_co op ki tg fi se oc mopn mo mc : Nat → Int32} (hL : LL L lat mlat) (hO : OL O N ki tg fi se oc mopn) (h0 : r_co 0 = nI B) (h1 : mo 1 = nI B) (h6 : op 6 = nI N) (h19 : mo 19 = nI N) : ∀ (d i n n' H : Nat) (T R : Nat → Nat) (bs rr hr lw lr lt lm tc rc mlaid mopt mopr : Nat → Int32), i + d = N → d < n → d + 1 < n' → PI B O i H T R bs rr hr lw lr lt lm tc rc mlaid mopt mopr → (∃ bs' rr' hr' lw' lr' lt' lm' tc' rc' mlaid' mopt' mopr', f_Pl_plan_8 n lat r_co op ki tg fi se bs rr hr lw lr lt lm tc rc (nI H) (nI i) = some (mi, bs', rr', hr', lw', lr', lt', lm', tc', rc') ∧ f_Mo_compile_30 n' mo mlat mc mopn mlaid mopt mopr (pr H) (nI 1) (nI i) = some (0, upd mo 0 1, mc, mlaid', mopt', mopr')) ∨ ∃ H' T' R' bs' rr' hr' lw' lr' lt' lm' tc' rc' mlaid' mopt' mopr', H' ≤ 63 ∧ f_Pl_plan_8 n lat r_co op ki tg fi se bs rr hr lw lr lt lm tc rc (nI H) (nI i) = some (nI H', bs', rr', hr', lw', lr', lt', lm', tc', rc') ∧ f_Mo_compile_30 n' mo mlat mc mopn mlaid mopt mopr (pr H) (nI 1) (nI i) = f_Mo_compile_109 (upd mo 0 0) mlat mc mopn mlaid' mopt' mopr' (pr H') (nI 1) ∧ PI B O N H' T' R' bs' rr' hr' lw' lr' lt' lm' tc' rc' mlaid' mopt' mopr'
  | 0, i, n + 1, n' + 1, H, T, R, bs, rr, hr, lw, lr, lt, lm, tc, rc, mlaid, mopt, mopr, hi, hn, hn', hP => by
    have h20 := hO.1
    have hH := hP.2.2.2.2.2.2.2.2.2.2
    have e : i = N := by omega
    subst e
    rw [f_Pl_plan_8, f_Mo_compile_30]
    unfold f_Op_count f_Mo_compile_80 f_Mo_compile_94 f_Mo_compile_96
    by_cases h63 : 63 < H
    · left
      have e2 : H = 64 := by omega
      subst e2
      refine ⟨bs, rr, hr, lw, lr, lt, lm, tc, rc, mlaid, mopt, mopr, ?_, ?_⟩
      · simp (disch := omega) only [lI, nI_add, pk_mul, nI_leI, nI_ltI, nI_eq, ck_n, nm_n, nI_clamp, Option.bind_some, if_pos, if_neg, bk_n0, bk_n1, nI_sub, upd_s, mi_e, mi_ne, mi_ne2, mi_lt, mi_le, mi_nle, mi_nlt, mi_s, bt_shrE, bit_e, true_and, and_true, if_true, if_false, ne_eq, not_true_eq_false, not_false_eq_true, Bool.false_eq_true, Bool.true_eq_false, reduceCtorEq, h6]
      · have : pr 64 = nI 63 := rfl
        unfold f_Mo_compile_109
        simp (disch := omega) only [lI, nI_add, pk_mul, nI_leI, nI_ltI, nI_eq, ck_n, nm_n, nI_clamp, Option.bind_some, if_pos, if_neg, bk_n0, bk_n1, nI_sub, upd_s, mi_e, mi_ne, mi_ne2, mi_lt, mi_le, mi_nle, mi_nlt, mi_s, bt_shrE, bit_e, true_and, and_true, if_true, if_false, ne_eq, not_true_eq_false, not_false_eq_true, Bool.false_eq_true, Bool.true_eq_false, reduceCtorEq, h19, this]
    · right
      refine ⟨H, T, R, bs, rr, hr, lw, lr, lt, lm, tc, rc, mlaid, mopt, mopr, by omega, ?_, ?_, hP⟩
      · simp (disch := omega) only [lI, nI_add, pk_mul, nI_leI, nI_ltI, nI_eq, ck_n, nm_n, nI_clamp, Option.bind_some, if_pos, if_neg, bk_n0, bk_n1, nI_sub, upd_s, mi_e, mi_ne, mi_ne2, mi_lt, mi_le, mi_nle, mi_nlt, mi_s, bt_shrE, bit_e, true_and, and_true, if_true, if_false, ne_eq, not_true_eq_false, not_false_eq_true, Bool.false_eq_true, Bool.true_eq_false, reduceCtorEq, h6]
      · have : (nI 63 ≤ pr H) = False := by
          rcases H with _ | H
          · exact mi_nle (by omega)
          · exact eq_false (fun h => by
              have h2 : 63 ≤ H := (nI_leI (by omega) (by omega)).mp h
              omega)
        simp (disch := omega) only [lI, nI_add, pk_mul, nI_leI, nI_ltI, nI_eq, ck_n, nm_n, nI_clamp, Option.bind_some, if_pos, if_neg, bk_n0, bk_n1, nI_sub, upd_s, mi_e, mi_ne, mi_ne2, mi_lt, mi_le, mi_nle, mi_nlt, mi_s, bt_shrE, bit_e, true_and, and_true, if_true, if_false, ne_eq, not_true_eq_false, not_false_eq_true, Bool.false_eq_true, Bool.true_eq_false, reduceCtorEq, h19, this]
  | d + 1, i, n + 1, n' + 1, H, T, R, bs, rr, hr, lw, lr, lt, lm, tc, rc, mlaid, mopt, mopr, hi, hn, hn', hP => by
    have h20 := hO.1
    have hH := hP.2.2.2.2.2.2.2.2.2.2
    rw [f_Pl_plan_8, f_Mo_compile_30]
    unfold f_Op_count f_Mo_compile_61 f_Mo_compile_74
    rcases one_n (op := op) hB hL hO (show i < N by omega) h0 h1 hP with ⟨bs', rr', hr', lw', lr', lt', lm', tc', rc', mlaid', mopt', mopr', q1, q2⟩ | ⟨e, T', R', bs', rr', hr', lw', lr', lt', lm', tc', rc', mlaid', mopt', mopr', q0, q1, q2, q3⟩
    · left
      refine ⟨bs', rr', hr', lw', lr', lt', lm', tc', rc', mlaid', mopt', mopr', ?_, ?_⟩
      · simp (disch := omega) only [lI, nI_add, pk_mul, nI_leI, nI_ltI, nI_eq, ck_n, nm_n, nI_clamp, Option.bind_some, if_pos, if_neg, bk_n0, bk_n1, nI_sub, upd_s, mi_e, mi_ne, mi_ne2, mi_lt, mi_le, mi_nle, mi_nlt, mi_s, bt_shrE, bit_e, true_and, and_true, if_true, if_false, ne_eq, not_true_eq_false, not_false_eq_true, Bool.false_eq_true, Bool.true_eq_false, reduceCtorEq, h6, q1]
      · obtain ⟨n'', rfl⟩ : ∃ n'', n' = n'' + 1 := ⟨n' - 1, by omega⟩
        have hmp : (mi ≤ pr H) = True := by
          rcases H with _ | H
          · exact eq_true (Int32.le_refl _)
          · exact mi_le (by omega)
        have hc80 := c80_no mo mlat mc mopn mlaid' mopt' mopr' (pr H)
        have e30 : f_Mo_compile_30 (n'' + 1) mo mlat mc mopn mlaid' mopt' mopr' (pr H) (nI 0) (nI (i + 1)) = some (0, upd mo 0 1, mc, mlaid', mopt', mopr') := by
          rw [f_Mo_compile_30]
          by_cases hz : N ≤ i + 1
          · simp (disch := omega) only [lI, nI_add, pk_mul, nI_leI, nI_ltI, nI_eq, ck_n, nm_n, nI_clamp, Option.bind_some, if_pos, if_neg, bk_n0, bk_n1, nI_sub, upd_s, mi_e, mi_ne, mi_ne2, mi_lt, mi_le, mi_nle, mi_nlt, mi_s, bt_shrE, bit_e, true_and, and_true, if_true, if_false, ne_eq, not_true_eq_false, not_false_eq_true, Bool.false_eq_true, Bool.true_eq_false, reduceCtorEq, h19]; simp only [lI] at hc80; exact hc80
          · simp (disch := omega) only [lI, nI_add, pk_mul, nI_leI, nI_ltI, nI_eq, ck_n, nm_n, nI_clamp, Option.bind_some, if_pos, if_neg, bk_n0, bk_n1, nI_sub, upd_s, mi_e, mi_ne, mi_ne2, mi_lt, mi_le, mi_nle, mi_nlt, mi_s, bt_shrE, bit_e, true_and, and_true, if_true, if_false, ne_eq, not_true_eq_false, not_false_eq_true, Bool.false_eq_true, Bool.true_eq_false, reduceCtorEq, h19]; simp only [lI] at hc80; exact hc80
        simp only [lI] at e30
        simp (disch := omega) only [lI, nI_add, pk_mul, nI_leI, nI_ltI, nI_eq, ck_n, nm_n, nI_clamp, Option.bind_some, if_pos, if_neg, bk_n0, bk_n1, nI_sub, upd_s, mi_e, mi_ne, mi_ne2, mi_lt, mi_le, mi_nle, mi_nlt, mi_s, bt_shrE, bit_e, true_and, and_true, if_true, if_false, ne_eq, not_true_eq_false, not_false_eq_true, Bool.false_eq_true, Bool.true_eq_false, reduceCtorEq, h19, q2, hmp, e30]
    · have hne : ¬ nI e = mi := nI_m1 (by omega)
      have hmax : (if nI H < nI (e + 1) then nI (e + 1) else nI H) = nI (max H (e + 1)) := by
        by_cases h : H < e + 1
        · rw [if_pos (nI_lt h (by omega)), Nat.max_eq_right (by omega)]
        · rw [if_neg (nI_nlt (by omega) (by omega)), Nat.max_eq_left (by omega)]
      have ih := plan_lp hB (mc := mc) hL hO h0 h1 h6 h19 d (i + 1) n n' (max H (e + 1)) T' R' bs' rr' hr' lw' lr' lt' lm' tc' rc' mlaid' mopt' mopr' (by omega) (by omega) (by omega) q3
      have c1 : ∀ (r : Option (Int32 × (Nat → Int32) × (Nat → Int32) × (Nat → Int32) × (Nat → Int32) × (Nat → Int32) × (Nat → Int32) × (Nat → Int32) × (Nat → Int32) × (Nat → Int32))), f_Pl_plan_8 n lat r_co op ki tg fi se bs' rr' hr' lw' lr' lt' lm' tc' rc' (nI (max H (e + 1))) (nI (i + 1)) = r → ((some (op 6)).bind fun y1 => if y1 ≤ nI i then if 63 < nI H then some (-1, bs, rr, hr, lw, lr, lt, lm, tc, rc) else some (nI H, bs, rr, hr, lw, lr, lt, lm, tc, rc) else (f_Pl_planOne lat r_co op ki tg fi se bs rr hr lw lr lt lm tc rc (nI i)).bind fun y4 => if y4.1 = -1 then some (-1, y4.2.1, y4.2.2.1, y4.2.2.2.1, y4.2.2.2.2.1, y4.2.2.2.2.2.1, y4.2.2.2.2.2.2.1, y4.2.2.2.2.2.2.2.1, y4.2.2.2.2.2.2.2.2.1, y4.2.2.2.2.2.2.2.2.2) else nm (if nI H < y4.1 + 1 then y4.1 + 1 else nI H) fun x6 => nm (nI i + 1) fun x7 => f_Pl_plan_8 n lat r_co op ki tg fi se y4.2.1 y4.2.2.1 y4.2.2.2.1 y4.2.2.2.2.1 y4.2.2.2.2.2.1 y4.2.2.2.2.2.2.1 y4.2.2.2.2.2.2.2.1 y4.2.2.2.2.2.2.2.2.1 y4.2.2.2.2.2.2.2.2.2 x6 x7) = r := fun r hr' => by
        rw [← hr', ← hmax]
        simp (disch := omega) only [lI, nI_add, pk_mul, nI_leI, nI_ltI, nI_eq, ck_n, nm_n, nI_clamp, Option.bind_some, if_pos, if_neg, bk_n0, bk_n1, nI_sub, upd_s, mi_e, mi_ne, mi_ne2, mi_lt, mi_le, mi_nle, mi_nlt, mi_s, bt_shrE, bit_e, true_and, and_true, if_true, if_false, ne_eq, not_true_eq_false, not_false_eq_true, Bool.false_eq_true, Bool.true_eq_false, reduceCtorEq, h6, q1]
      have c2 : (if (mo 19) ≤ nI i then f_Mo_compile_80 mo mlat mc mopn mlaid mopt mopr (pr H) (nI 1) else if nI 1 = 0 then f_Mo_compile_80 mo mlat mc mopn mlaid mopt mopr (pr H) (nI 1) else (f_Mo_layOperation mo mlat mopn mlaid mopt mopr (nI i)).bind fun y3 => if y3.1 = -1 then (if y3.1 ≤ pr H then nm (nI i + 1) fun x1 => f_Mo_compile_30 n' mo mlat mc mopn y3.2.1 y3.2.2.1 y3.2.2.2 (pr H) 0 x1 else nm (nI i + 1) fun x1 => f_Mo_compile_30 n' mo mlat mc mopn y3.2.1 y3.2.2.1 y3.2.2.2 y3.1 0 x1) else (if y3.1 ≤ pr H then nm (nI i + 1) fun x1 => f_Mo_compile_30 n' mo mlat mc mopn y3.2.1 y3.2.2.1 y3.2.2.2 (pr H) 1 x1 else nm (nI i + 1) fun x1 => f_Mo_compile_30 n' mo mlat mc mopn y3.2.1 y3.2.2.1 y3.2.2.2 y3.1 1 x1)) = f_Mo_compile_30 n' mo mlat mc mopn mlaid' mopt' mopr' (pr (max H (e + 1))) (nI 1) (nI (i + 1)) := by
        by_cases hle : e + 1 ≤ H
        · have : (nI e ≤ pr H) = True := by
            rcases H with _ | H
            · omega
            · exact eq_true (nI_le (by omega) (by omega))
          rw [Nat.max_eq_left hle]
          simp (disch := omega) only [lI, nI_add, pk_mul, nI_leI, nI_ltI, nI_eq, ck_n, nm_n, nI_clamp, Option.bind_some, if_pos, if_neg, bk_n0, bk_n1, nI_sub, upd_s, mi_e, mi_ne, mi_ne2, mi_lt, mi_le, mi_nle, mi_nlt, mi_s, bt_shrE, bit_e, true_and, and_true, if_true, if_false, ne_eq, not_true_eq_false, not_false_eq_true, Bool.false_eq_true, Bool.true_eq_false, reduceCtorEq, h19, q2, this]
        · have : (nI e ≤ pr H) = False := by
            rcases H with _ | H
            · exact mi_nle (by omega)
            · exact eq_false (nI_ge (by omega) (by omega))
          rw [Nat.max_eq_right (by omega)]
          simp (disch := omega) only [lI, nI_add, pk_mul, nI_leI, nI_ltI, nI_eq, ck_n, nm_n, nI_clamp, Option.bind_some, if_pos, if_neg, bk_n0, bk_n1, nI_sub, upd_s, mi_e, mi_ne, mi_ne2, mi_lt, mi_le, mi_nle, mi_nlt, mi_s, bt_shrE, bit_e, true_and, and_true, if_true, if_false, ne_eq, not_true_eq_false, not_false_eq_true, Bool.false_eq_true, Bool.true_eq_false, reduceCtorEq, h19, q2, this]
          rfl
      rcases ih with ⟨bs2, rr2, hr2, lw2, lr2, lt2, lm2, tc2, rc2, mlaid2, mopt2, mopr2, z1, z2⟩ | ⟨H', T2, R2, bs2, rr2, hr2, lw2, lr2, lt2, lm2, tc2, rc2, mlaid2, mopt2, mopr2, z0, z1, z2, z3⟩
      · exact Or.inl ⟨bs2, rr2, hr2, lw2, lr2, lt2, lm2, tc2, rc2, mlaid2, mopt2, mopr2, c1 _ z1, c2.trans z2⟩
      · exact Or.inr ⟨H', T2, R2, bs2, rr2, hr2, lw2, lr2, lt2, lm2, tc2, rc2, mlaid2, mopt2, mopr2, z0, c1 _ z1, c2.trans z2, z3⟩
