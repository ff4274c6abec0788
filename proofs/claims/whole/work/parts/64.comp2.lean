-- ===== the plan is written =====
def WD (B : Nat) (S : ST2) (ta gu so cn de : Nat → Int32) : Prop := KD S.1 ta gu so cn de ∧ UU B S.1 S.2
theorem layK_d {B : Nat} (hB : BV B) {S : ST2} {r_co ta gu so cn de : Nat → Int32} (h0 : r_co 0 = nI B) (h : WD B S ta gu so cn de) {c : Nat} (hc : c < 64) (hu : S.2 c < B) (s d : Nat) (k : Int32) : ∃ ta' gu' so' cn' de', f_Co_putOnLowestBus r_co ta gu so cn de (nI c) (nI s) k (nI d) = some (ta', gu', so', cn', de') ∧ WD B (layK S c (0, s, k, d)) ta' gu' so' cn' de' := low_n hB h0 h.1 h.2 hc hu s d k
theorem layK_le (S : ST2) (c : Nat) (q : Nat × Nat × Int32 × Nat) (x : Nat) : S.2 x ≤ (layK S c q).2 x := by
  show S.2 x ≤ bump S.2 c x
  unfold bump
  split <;> omega
theorem layA_le (O : OT) (i t : Nat) (S : ST2) (x : Nat) : S.2 x ≤ (layA O i t S).2 x := by
  unfold layA
  split
  · exact Nat.le_refl _
  · exact layK_le _ _ _ _
theorem layB_le (O : OT) (i t : Nat) (S : ST2) (x : Nat) : (layA O i t S).2 x ≤ (layB O i t S).2 x := layK_le _ _ _ _
theorem layC_le (O : OT) (i t : Nat) (S : ST2) (x : Nat) : S.2 x ≤ (layC O i t S).2 x := by
  unfold layC
  split
  · exact Nat.le_refl _
  · exact layK_le _ _ _ _
theorem laid_le (O : OT) (T R : Nat → Nat) (x : Nat) : ∀ (d i : Nat), (laidN O T R i).2 x ≤ (laidN O T R (i + d)).2 x
  | 0, i => Nat.le_refl _
  | d + 1, i => Nat.le_trans (laid_le O T R x d i) (Nat.le_trans (layA_le O (i + d) (T (i + d)) _ x) (Nat.le_trans (layB_le O (i + d) (T (i + d)) _ x) (layC_le O (i + d) (R (i + d)) _ x)))
theorem writeOne_n {B : Nat} (hB : BV B) {O : OT} {T R : Nat → Nat} {N i : Nat} {r_co ta gu so cn de op ki tg fi se oc mopn tc rc mopt mopr : Nat → Int32} (hO : OL O N ki tg fi se oc mopn) (hi : i < N) (h0 : r_co 0 = nI B) (hP : PTR O N T R tc rc mopt mopr) (hf : ∀ c, c < 64 → (laidN O T R (i + 1)).2 c ≤ B) (h : WD B (laidN O T R i) ta gu so cn de) : ∃ ta' gu' so' cn' de', f_Pl_writeOne r_co ta gu so cn de op ki tg fi se oc tc rc (nI i) = some (ta', gu', so', cn', de') ∧ WD B (laidN O T R (i + 1)) ta' gu' so' cn' de' := by
  have h20 := hO.1
  have hun := unO_lt O i
  obtain ⟨t1, t2, _, t4⟩ := hP i hi
  obtain ⟨a1, a2, a3, a4, a5, b1, b2, b3, b4, b5, k1, k2, k3, k4, _⟩ := OL_at hO hi
  have hx := xO_lt k3 k4
  have hfC : ∀ c, c < 64 → (layC O i (R i) (layB O i (T i) (laidN O T R i))).2 c ≤ B := hf
  -- the operand
  have hA : ∃ ta' gu' so' cn' de', f_Pl_writeOne r_co ta gu so cn de op ki tg fi se oc tc rc (nI i) = f_Pl_writeOne_70 r_co ta' gu' so' cn' de' op ki tg fi se oc tc rc (nI i) (nI (unO O i)) (nI (srcO (xO O i))) (nI (T i)) ∧ WD B (layA O i (T i) (laidN O T R i)) ta' gu' so' cn' de' := by
    by_cases h3 : kdO O i = 3
    · refine ⟨ta, gu, so, cn, de, ?_, ?_⟩
      · unfold f_Pl_writeOne
        rw [unit_n hO hi, firstS_n hO hi, trigS_n hO hi, isLoad_n hO hi]
        simp (disch := omega) only [lI, nI_add, pk_mul, nI_leI, nI_ltI, nI_eq, ck_n, nm_n, nI_clamp, Option.bind_some, if_pos, if_neg, bk_n0, bk_n1, nI_sub, upd_s, mi_e, mi_ne, mi_ne2, mi_lt, mi_le, mi_nle, mi_nlt, mi_s, bt_shrE, bit_e, true_and, and_true, if_true, if_false, ne_eq, not_true_eq_false, not_false_eq_true, Bool.false_eq_true, Bool.true_eq_false, reduceCtorEq, h3, beq_self_eq_true, b2i_0, t2]
      · unfold layA; rw [if_pos h3]; exact h
    · have hu : (laidN O T R i).2 (T i) < B := by
        have e1 := layB_le O i (T i) (laidN O T R i) (T i)
        have e2 := layC_le O i (R i) (layB O i (T i) (laidN O T R i)) (T i)
        have e3 := hfC (T i) t1
        have e4 : (laidN O T R i).2 (T i) + 1 = (layA O i (T i) (laidN O T R i)).2 (T i) := by
          unfold layA; rw [if_neg h3]; exact (bump_s _ _).symm
        omega
      obtain ⟨ta', gu', so', cn', de', q1, q2⟩ := layK_d hB h0 h t1 hu (srcO (aO O i)) (8 + unO O i) (cfO O i (aO O i))
      refine ⟨ta', gu', so', cn', de', ?_, ?_⟩
      · unfold f_Pl_writeOne
        rw [unit_n hO hi, firstS_n hO hi, trigS_n hO hi, isLoad_n hO hi]
        simp (disch := omega) only [lI, nI_add, pk_mul, nI_leI, nI_ltI, nI_eq, ck_n, nm_n, nI_clamp, Option.bind_some, if_pos, if_neg, bk_n0, bk_n1, nI_sub, upd_s, mi_e, mi_ne, mi_ne2, mi_lt, mi_le, mi_nle, mi_nlt, mi_s, bt_shrE, bit_e, true_and, and_true, if_true, if_false, ne_eq, not_true_eq_false, not_false_eq_true, Bool.false_eq_true, Bool.true_eq_false, reduceCtorEq, beq_false_of_ne h3, b2i_0, t2, constF_n hO hi k3, q1]
      · unfold layA; rw [if_neg h3]; exact q2
  obtain ⟨ta1, gu1, so1, cn1, de1, c1, c2⟩ := hA
  -- the trigger
  have huB : (layA O i (T i) (laidN O T R i)).2 (T i) < B := by
    have e2 := layC_le O i (R i) (layB O i (T i) (laidN O T R i)) (T i)
    have e3 := hfC (T i) t1
    have e4 : (layA O i (T i) (laidN O T R i)).2 (T i) + 1 = (layB O i (T i) (laidN O T R i)).2 (T i) := (bump_s _ _).symm
    omega
  obtain ⟨ta2, gu2, so2, cn2, de2, d1, d2⟩ := layK_d hB h0 c2 t1 huB (srcO (xO O i)) (11 + kdO O i) (cfO O i (xO O i))
  have d2' : WD B (layB O i (T i) (laidN O T R i)) ta2 gu2 so2 cn2 de2 := d2
  by_cases h4 : kdO O i = 4
  · refine ⟨ta2, gu2, so2, cn2, de2, ?_, ?_⟩
    · rw [c1]
      unfold f_Pl_writeOne_70
      rw [constF_n hO hi hx, trigger_n hO hi, isStore_n hO hi]
      simp (disch := omega) only [lI, nI_add, pk_mul, nI_leI, nI_ltI, nI_eq, ck_n, nm_n, nI_clamp, Option.bind_some, if_pos, if_neg, bk_n0, bk_n1, nI_sub, upd_s, mi_e, mi_ne, mi_ne2, mi_lt, mi_le, mi_nle, mi_nlt, mi_s, bt_shrE, bit_e, true_and, and_true, if_true, if_false, ne_eq, not_true_eq_false, not_false_eq_true, Bool.false_eq_true, Bool.true_eq_false, reduceCtorEq, h4, beq_self_eq_true, b2i_0]
      rw [h4] at d1
      simp (disch := omega) only [lI, nI_add, pk_mul, nI_leI, nI_ltI, nI_eq, ck_n, nm_n, nI_clamp, Option.bind_some, if_pos, if_neg, bk_n0, bk_n1, nI_sub, upd_s, mi_e, mi_ne, mi_ne2, mi_lt, mi_le, mi_nle, mi_nlt, mi_s, bt_shrE, bit_e, true_and, and_true, if_true, if_false, ne_eq, not_true_eq_false, not_false_eq_true, Bool.false_eq_true, Bool.true_eq_false, reduceCtorEq, d1]
    · show WD B (layC O i (R i) (layB O i (T i) (laidN O T R i))) ta2 gu2 so2 cn2 de2
      unfold layC; rw [if_pos h4]; exact d2'
  · obtain ⟨t5, t6, _⟩ := t4 h4
    have huC : (layB O i (T i) (laidN O T R i)).2 (R i) < B := by
      have e3 := hfC (R i) t5
      have e4 : (layB O i (T i) (laidN O T R i)).2 (R i) + 1 = (layC O i (R i) (layB O i (T i) (laidN O T R i))).2 (R i) := by
        unfold layC; rw [if_neg h4]; exact (bump_s _ _).symm
      omega
    obtain ⟨ta3, gu3, so3, cn3, de3, e1, e2⟩ := layK_d hB h0 d2' t5 huC (8 + unO O i) (tgO O i) (nI 0)
    refine ⟨ta3, gu3, so3, cn3, de3, ?_, ?_⟩
    · rw [c1]
      unfold f_Pl_writeOne_70
      rw [constF_n hO hi hx, trigger_n hO hi, isStore_n hO hi]
      simp (disch := omega) only [lI, nI_add, pk_mul, nI_leI, nI_ltI, nI_eq, ck_n, nm_n, nI_clamp, Option.bind_some, if_pos, if_neg, bk_n0, bk_n1, nI_sub, upd_s, mi_e, mi_ne, mi_ne2, mi_lt, mi_le, mi_nle, mi_nlt, mi_s, bt_shrE, bit_e, true_and, and_true, if_true, if_false, ne_eq, not_true_eq_false, not_false_eq_true, Bool.false_eq_true, Bool.true_eq_false, reduceCtorEq, beq_false_of_ne h4, b2i_0, d1, t6, target_n hO hi, e1]
    · show WD B (layC O i (R i) (layB O i (T i) (laidN O T R i))) ta3 gu3 so3 cn3 de3
      unfold layC; rw [if_neg h4]; exact e2
theorem write_lp {B : Nat} (hB : BV B) {O : OT} {T R : Nat → Nat} {N H : Nat} {r_co op ki tg fi se oc mopn tc rc mopt mopr : Nat → Int32} (hO : OL O N ki tg fi se oc mopn) (h6 : op 6 = nI N) (h0 : r_co 0 = nI B) (hP : PTR O N T R tc rc mopt mopr) (hf : ∀ c, c < 64 → (laidN O T R N).2 c ≤ B) (hH : H < 64) (hH0 : (laidN O T R N).2 H = 0) : ∀ (d i n : Nat) (ta gu so cn de : Nat → Int32), i + d = N → d < n → WD B (laidN O T R i) ta gu so cn de → ∃ ta' gu' so' cn' de', f_Pl_write_9 n r_co ta gu so cn de op ki tg fi se oc tc rc (nI H) (nI i) = some (ta', gu', so', cn', de') ∧ WD B (layK (laidN O T R N) H (0, 11, nI 0, 25)) ta' gu' so' cn' de'
  | 0, i, n + 1, ta, gu, so, cn, de, hi, hn, h => by
    have h20 := hO.1
    have hB2 := hB.1
    have e : i = N := by omega
    subst e
    obtain ⟨ta', gu', so', cn', de', q1, q2⟩ := layK_d hB h0 h hH (by omega) 11 25 (nI 0)
    refine ⟨ta', gu', so', cn', de', ?_, q2⟩
    rw [f_Pl_write_9]
    unfold f_Op_count
    simp (disch := omega) only [lI, nI_add, pk_mul, nI_leI, nI_ltI, nI_eq, ck_n, nm_n, nI_clamp, Option.bind_some, if_pos, if_neg, bk_n0, bk_n1, nI_sub, upd_s, mi_e, mi_ne, mi_ne2, mi_lt, mi_le, mi_nle, mi_nlt, mi_s, bt_shrE, bit_e, true_and, and_true, if_true, if_false, ne_eq, not_true_eq_false, not_false_eq_true, Bool.false_eq_true, Bool.true_eq_false, reduceCtorEq, h6, q1]
  | d + 1, i, n + 1, ta, gu, so, cn, de, hi, hn, h => by
    have h20 := hO.1
    have hfi : ∀ c, c < 64 → (laidN O T R (i + 1)).2 c ≤ B := fun c hc => by
      have := laid_le O T R c d (i + 1)
      rw [show i + 1 + d = N by omega] at this
      exact Nat.le_trans this (hf c hc)
    obtain ⟨ta1, gu1, so1, cn1, de1, q1, q2⟩ := writeOne_n (op := op) hB hO (show i < N by omega) h0 hP hfi h
    obtain ⟨ta', gu', so', cn', de', r1, r2⟩ := write_lp hB hO h6 h0 hP hf hH hH0 d (i + 1) n ta1 gu1 so1 cn1 de1 (by omega) (by omega) q2
    refine ⟨ta', gu', so', cn', de', ?_, r2⟩
    rw [f_Pl_write_9]
    unfold f_Op_count
    simp (disch := omega) only [lI, nI_add, pk_mul, nI_leI, nI_ltI, nI_eq, ck_n, nm_n, nI_clamp, Option.bind_some, if_pos, if_neg, bk_n0, bk_n1, nI_sub, upd_s, mi_e, mi_ne, mi_ne2, mi_lt, mi_le, mi_nle, mi_nlt, mi_s, bt_shrE, bit_e, true_and, and_true, if_true, if_false, ne_eq, not_true_eq_false, not_false_eq_true, Bool.false_eq_true, Bool.true_eq_false, reduceCtorEq, h6, q1, r1]
theorem ccopy_lp {mo mlat mopn mlaid mopt mopr : Nat → Int32} (v1 : Int32) : ∀ (d i n : Nat) (mc : Nat → Int32), i + d = 1024 → d < n → (∀ j, j < i → mc j = mlaid j) → ∃ mc', f_Mo_compile_129 n mo mlat mc mopn mlaid mopt mopr v1 (nI i) = some (v1 + nI 1, mo, mc', mlaid, mopt, mopr) ∧ ∀ j, j < 1024 → mc' j = mlaid j
  | 0, i, n + 1, mc, hi, hn, h => ⟨mc, by rw [f_Mo_compile_129]; simp (disch := omega) only [lI, nI_add, pk_mul, nI_leI, nI_ltI, nI_eq, ck_n, nm_n, nI_clamp, Option.bind_some, if_pos, if_neg, bk_n0, bk_n1, nI_sub, upd_s, mi_e, mi_ne, mi_ne2, mi_lt, mi_le, mi_nle, mi_nlt, mi_s, bt_shrE, bit_e, true_and, and_true, if_true, if_false, ne_eq, not_true_eq_false, not_false_eq_true, Bool.false_eq_true, Bool.true_eq_false, reduceCtorEq], fun j hj => h j (by omega)⟩
  | d + 1, i, n + 1, mc, hi, hn, h => by
    obtain ⟨mc', q1, q2⟩ := ccopy_lp (mo := mo) (mlat := mlat) (mopn := mopn) (mlaid := mlaid) (mopt := mopt) (mopr := mopr) v1 d (i + 1) n (upd mc i (mlaid i)) (by omega) (by omega) (fun j hj => by
      by_cases e : j = i
      · subst e; rw [upd_s]
      · rw [upd_n e]; exact h j (by omega))
    refine ⟨mc', ?_, q2⟩
    rw [f_Mo_compile_129]; simp (disch := omega) only [lI, nI_add, pk_mul, nI_leI, nI_ltI, nI_eq, ck_n, nm_n, nI_clamp, Option.bind_some, if_pos, if_neg, bk_n0, bk_n1, nI_sub, upd_s, mi_e, mi_ne, mi_ne2, mi_lt, mi_le, mi_nle, mi_nlt, mi_s, bt_shrE, bit_e, true_and, and_true, if_true, if_false, ne_eq, not_true_eq_false, not_false_eq_true, Bool.false_eq_true, Bool.true_eq_false, reduceCtorEq, q1]
theorem mlaid_lp (mo mlat mc mopn mopt mopr : Nat → Int32) : ∀ (d i n : Nat) (ml : Nat → Int32), i + d = 256 → d < n → ∃ ml', f_Mo_compile_2 n mo mlat mc mopn ml mopt mopr (nI i) = f_Mo_compile_30 5000 mo mlat mc mopn ml' mopt mopr mi (nI 1) (nI 0) ∧ (∀ j, i ≤ j → j < 256 → ml' (4 * j) = mi) ∧ ∀ j, j < 4 * i → ml' j = ml j
  | 0, i, n + 1, mc, hi, hn => ⟨mc, by rw [f_Mo_compile_2]; simp (disch := omega) only [lI, nI_add, pk_mul, nI_leI, nI_ltI, nI_eq, ck_n, nm_n, nI_clamp, Option.bind_some, if_pos, if_neg, bk_n0, bk_n1, nI_sub, upd_s, mi_e, mi_ne, mi_ne2, mi_lt, mi_le, mi_nle, mi_nlt, mi_s, bt_shrE, bit_e, true_and, and_true, if_true, if_false, ne_eq, not_true_eq_false, not_false_eq_true, Bool.false_eq_true, Bool.true_eq_false, reduceCtorEq], fun j h1 h2 => by omega, fun j hj => rfl⟩
  | d + 1, i, n + 1, ml, hi, hn => by
    obtain ⟨mc', h1, h2, h3⟩ := mlaid_lp mo mlat mc mopn mopt mopr d (i + 1) n (upd ml (4 * i) mi) (by omega) (by omega)
    refine ⟨mc', ?_, fun j hj1 hj2 => ?_, fun j hj => ?_⟩
    · rw [f_Mo_compile_2]; simp (disch := omega) only [lI, nI_add, pk_mul, nI_leI, nI_ltI, nI_eq, ck_n, nm_n, nI_clamp, Option.bind_some, if_pos, if_neg, bk_n0, bk_n1, nI_sub, upd_s, mi_e, mi_ne, mi_ne2, mi_lt, mi_le, mi_nle, mi_nlt, mi_s, bt_shrE, bit_e, true_and, and_true, if_true, if_false, ne_eq, not_true_eq_false, not_false_eq_true, Bool.false_eq_true, Bool.true_eq_false, reduceCtorEq, h1]
    · by_cases e : j = i
      · subst e; rw [h3 (4 * j) (by omega), upd_s]
      · exact h2 j (by omega) hj2
    · rw [h3 j (by omega), upd_n (by omega)]
theorem KM_cp {K : KT} {mc mc' : Nat → Int32} (h : KM K mc) (e : ∀ j, j < 1024 → mc' j = mc j) : KM K mc' := fun c hc b hb => by
  rw [e _ (by omega), e _ (by omega), e _ (by omega), e _ (by omega)]
  exact h c hc b hb
theorem write_of {r_co ta gu so cn de op ki tg fi se oc tc rc ta0 : Nat → Int32} {v : Int32} {r : Option ((Nat → Int32) × (Nat → Int32) × (Nat → Int32) × (Nat → Int32) × (Nat → Int32))} (a1 : f_Co_erase_2 5000 r_co ta (nI 0) = some ta0) (w1 : f_Pl_write_9 5000 r_co ta0 gu so cn de op ki tg fi se oc tc rc v (nI 0) = r) : f_Pl_write r_co ta gu so cn de op ki tg fi se oc tc rc v = r := by
  rw [← w1]
  unfold f_Pl_write f_Co_erase
  rw [show (0 : Int32) = nI 0 from rfl, a1, Option.bind_some]
theorem c109_of {mo mlat mc mopn mlaid mopt mopr ml1 : Nat → Int32} {H : Nat} {r : Option (Int32 × (Nat → Int32) × (Nat → Int32) × (Nat → Int32) × (Nat → Int32) × (Nat → Int32))} (y : f_Mo_lay mo mlaid (nI H) (nI 11) (nI 0) (nI 25) = some ml1) (z : f_Mo_compile_129 5000 mo mlat mc mopn ml1 mopt mopr (pr H) (nI 0) = r) : f_Mo_compile_109 mo mlat mc mopn mlaid mopt mopr (pr H) (nI 1) = r := by
  rw [← z]
  unfold f_Mo_compile_109
  rw [if_neg (show ¬ nI 1 = 0 by decide), show (1 : Int32) = nI 1 from rfl, pr_s, show (11 : Int32) = nI 11 from rfl, show (25 : Int32) = nI 25 from rfl, show (0 : Int32) = nI 0 from rfl, y, Option.bind_some]
theorem comp_bad {r_md lat r_co ta gu so cn de op ki tg fi se oc bs rr hr lw lr lt lm tc rc bs' rr' hr' lw' lr' lt' lm' tc' rc' : Nat → Int32} {out : Nat → Int64} (q1 : f_Pl_plan lat r_co op ki tg fi se bs rr hr lw lr lt lm tc rc = some (mi, bs', rr', hr', lw', lr', lt', lm', tc', rc')) : f_La_compile r_md lat r_co ta gu so cn de op ki tg fi se oc bs rr hr lw lr lt lm tc rc out = some (1, ta, gu, so, cn, de, bs', rr', hr', lw', lr', lt', lm', tc', rc', out) := by
  unfold f_La_compile f_Md_compile
  simp (disch := omega) only [lI, nI_add, pk_mul, nI_leI, nI_ltI, nI_eq, ck_n, nm_n, nI_clamp, Option.bind_some, if_pos, if_neg, bk_n0, bk_n1, nI_sub, upd_s, mi_e, mi_ne, mi_ne2, mi_lt, mi_le, mi_nle, mi_nlt, mi_s, bt_shrE, bit_e, true_and, and_true, if_true, if_false, ne_eq, not_true_eq_false, not_false_eq_true, Bool.false_eq_true, Bool.true_eq_false, reduceCtorEq, q1]
theorem comp_good {r_md lat r_co ta gu so cn de op ki tg fi se oc bs rr hr lw lr lt lm tc rc bs' rr' hr' lw' lr' lt' lm' tc' rc' ta1 gu1 so1 cn1 de1 : Nat → Int32} {out : Nat → Int64} {H : Nat} (hH : H < 64) (q1 : f_Pl_plan lat r_co op ki tg fi se bs rr hr lw lr lt lm tc rc = some (nI H, bs', rr', hr', lw', lr', lt', lm', tc', rc')) (hw : f_Pl_write r_co ta gu so cn de op ki tg fi se oc tc' rc' (nI H) = some (ta1, gu1, so1, cn1, de1)) : f_La_compile r_md lat r_co ta gu so cn de op ki tg fi se oc bs rr hr lw lr lt lm tc rc out = some (0, ta1, gu1, so1, cn1, de1, bs', rr', hr', lw', lr', lt', lm', tc', rc', vp_updL out 0 (nI H).toInt64) := by
  unfold f_La_compile f_Md_compile
  simp (disch := omega) only [lI, nI_add, pk_mul, nI_leI, nI_ltI, nI_eq, ck_n, nm_n, nI_clamp, Option.bind_some, if_pos, if_neg, bk_n0, bk_n1, nI_sub, upd_s, mi_e, mi_ne, mi_ne2, mi_lt, mi_le, mi_nle, mi_nlt, mi_s, bt_shrE, bit_e, true_and, and_true, if_true, if_false, ne_eq, not_true_eq_false, not_false_eq_true, Bool.false_eq_true, Bool.true_eq_false, reduceCtorEq, q1, hw]
theorem plan_of {lat r_co op ki tg fi se bs rr hr lw lr lt lm tc rc bs0 rr0 hr0 lw0 lr0 lt0 lm0 : Nat → Int32} (s1 : f_Pl_start bs rr hr lw lr lt lm = some (bs0, rr0, hr0, lw0, lr0, lt0, lm0)) {r : Option (Int32 × (Nat → Int32) × (Nat → Int32) × (Nat → Int32) × (Nat → Int32) × (Nat → Int32) × (Nat → Int32) × (Nat → Int32) × (Nat → Int32) × (Nat → Int32))} (h : f_Pl_plan_8 5000 lat r_co op ki tg fi se bs0 rr0 hr0 lw0 lr0 lt0 lm0 tc rc (nI 0) (nI 0) = r) : f_Pl_plan lat r_co op ki tg fi se bs rr hr lw lr lt lm tc rc = r := by
  unfold f_Pl_plan
  simp (disch := omega) only [lI, nI_add, pk_mul, nI_leI, nI_ltI, nI_eq, ck_n, nm_n, nI_clamp, Option.bind_some, if_pos, if_neg, bk_n0, bk_n1, nI_sub, upd_s, mi_e, mi_ne, mi_ne2, mi_lt, mi_le, mi_nle, mi_nlt, mi_s, bt_shrE, bit_e, true_and, and_true, if_true, if_false, ne_eq, not_true_eq_false, not_false_eq_true, Bool.false_eq_true, Bool.true_eq_false, reduceCtorEq, s1]
  exact h
theorem case_compile {B : Nat} {K : KT} {L : Nat → Nat} {r_md lat mlat r_co ta gu so cn de op ki tg fi se oc bs rr hr lw lr lt lm tc rc mo mc mopn mlaid mopt mopr : Nat → Int32} {out : Nat → Int64} (h : RC B K ta gu so cn de mc) (hL : LL L lat mlat) (hO : RO op ki tg fi se oc mo mopn) (h0 : r_co 0 = nI B) (h1 : mo 1 = nI B) :
    ∃ ya ym, f_La_compile r_md lat r_co ta gu so cn de op ki tg fi se oc bs rr hr lw lr lt lm tc rc out = some ya ∧ f_Mo_compile mo mlat mc mopn mlaid mopt mopr = some ym ∧ ym.2.1 0 = ya.1 ∧ mk0 mo ym.2.1 ∧ (ya.1 = 0 → ya.2.2.2.2.2.2.2.2.2.2.2.2.2.2.2 0 = ym.1.toInt64) ∧ ∃ K', RC B K' ya.2.1 ya.2.2.1 ya.2.2.2.1 ya.2.2.2.2.1 ya.2.2.2.2.2.1 ym.2.2.1 := by
  obtain ⟨hB, hD, hM, hV⟩ := h
  obtain ⟨O, N, h6, h19, hOL⟩ := hO
  have h20 := hOL.1
  obtain ⟨ml0, m1, m2, _⟩ := mlaid_lp mo mlat mc mopn mopt mopr 256 0 5000 mlaid (by omega) (by omega)
  obtain ⟨bs0, rr0, hr0, lw0, lr0, lt0, lm0, s1, s2, s3, s4⟩ := pstart_n bs rr hr lw lr lt lm
  have hP0 := PI_0 (tc := tc) (rc := rc) (mopt := mopt) (mopr := mopr) hB O s2 s3 s4 (fun j hj => m2 j (by omega) hj)
  have hml : f_Mo_compile mo mlat mc mopn mlaid mopt mopr = f_Mo_compile_30 5000 mo mlat mc mopn ml0 mopt mopr (pr 0) (nI 1) (nI 0) := by
    unfold f_Mo_compile
    rw [show (0 : Int32) = nI 0 from rfl, m1, show pr 0 = mi from rfl]
  rcases plan_lp (mc := mc) hB hL hOL h0 h1 h6 h19 N 0 5000 5000 0 _ _ bs0 rr0 hr0 lw0 lr0 lt0 lm0 tc rc ml0 mopt mopr (by omega) (by omega) (by omega) hP0 with ⟨bs', rr', hr', lw', lr', lt', lm', tc', rc', mlaid', mopt', mopr', q1, q2⟩ | ⟨H, T, R, bs', rr', hr', lw', lr', lt', lm', tc', rc', mlaid', mopt', mopr', q0, q1, q2, q3⟩
  · refine ⟨(1, ta, gu, so, cn, de, bs', rr', hr', lw', lr', lt', lm', tc', rc', out), _, ?_, hml.trans q2, ?_, mk0_upd _ _, ?_, K, hB, hD, hM, hV⟩
    · exact comp_bad (plan_of s1 q1)
    · exact upd_s mo 0 1
    · intro hc; exact absurd hc (show ¬ (1 : Int32) = 0 by decide)
  · obtain ⟨p1, p2, p3, p4, p5, p6, p7, p8, p9, p10, p11⟩ := q3
    have hB2 := hB.1
    have hH0 : (laidN O T R N).2 H = 0 := by
      rcases Nat.eq_zero_or_pos ((laidN O T R N).2 H) with e | e
      · exact e
      · have := p10 H (by omega); omega
    obtain ⟨ta0, a1, a2, _⟩ := erase_lp r_co 64 0 5000 ta (by omega) (by omega)
    have hn := (RC_none (gu := gu) (so := so) (cn := cn) (de := de) hB (fun j hj => a2 j (by omega) hj) (fun j hj => m2 j (by omega) hj)).2.1
    have hw0 : WD B (laidN O T R 0) ta0 gu so cn de := ⟨hn, fun c hc => ⟨Nat.zero_le _, fun b hb => by
      show (none : Option (Nat × Nat × Int32 × Nat)).isSome = decide (b < 0)
      simp⟩⟩
    obtain ⟨ta1, gu1, so1, cn1, de1, w1, w2⟩ := write_lp (op := op) hB hOL h6 h0 p2 (fun c hc => (p1.2.2 c hc).1) (show H < 64 by omega) hH0 N 0 5000 ta0 gu so cn de (by omega) (by omega) hw0
    obtain ⟨ml1, y1, y2⟩ := layK_m (mo := upd mo 0 0) hB p1 (show H < 64 by omega) (show (laidN O T R N).2 H < B by omega) (s := 11) (d := 25) (by omega) (by omega) (nI 0)
    obtain ⟨mc1, z1, z2⟩ := ccopy_lp (mo := upd mo 0 0) (mlat := mlat) (mopn := mopn) (mlaid := ml1) (mopt := mopt') (mopr := mopr') (pr H) 1024 0 5000 mc (by omega) (by omega) (fun j hj => by omega)
    rw [pr_s] at z1
    have hmm : f_Mo_compile_109 (upd mo 0 0) mlat mc mopn mlaid' mopt' mopr' (pr H) (nI 1) = some (nI H, upd mo 0 0, mc1, ml1, mopt', mopr') := c109_of y1 z1
    refine ⟨(0, ta1, gu1, so1, cn1, de1, bs', rr', hr', lw', lr', lt', lm', tc', rc', vp_updL out 0 (nI H).toInt64), _, ?_, hml.trans (q2.trans hmm), upd_s mo 0 0, mk0_upd _ _, ?_, _, hB, w2.1, KM_cp y2.1 z2, y2.2.1⟩
    · have hw : f_Pl_write r_co ta gu so cn de op ki tg fi se oc tc' rc' (nI H) = some (ta1, gu1, so1, cn1, de1) := write_of a1 w1
      exact comp_good (by omega) (plan_of s1 q1) hw
    · intro _
      exact updL_s out 0 _
