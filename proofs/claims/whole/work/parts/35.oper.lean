theorem mo57 (mo mopn : Nat → Int32) (v1 v2 v3 v4 v5 : Int32) : f_Mo_operation_57 mo mopn v1 v2 v3 v4 v5 = some (0, upd mo 0 1, mopn) := by
  unfold f_Mo_operation_57 f_Mo_operation_60 f_Mo_operation_87
  simp (disch := omega) only [lI, nI_add, pk_mul, nI_leI, nI_ltI, nI_eq, ck_n, nm_n, nI_clamp, Option.bind_some, if_pos, if_neg, bk_n0, bk_n1, nI_sub, upd_s, mi_e, mi_ne, mi_ne2, mi_lt, mi_le, mi_nle, mi_nlt, mi_s, bt_shrE, bit_e, true_and, and_true, if_true, if_false, ne_eq, not_true_eq_false, not_false_eq_true, Bool.false_eq_true, Bool.true_eq_false, reduceCtorEq]
theorem mayBe_cases (op mo mopn : Nat → Int32) (v1 v2 v3 v4 v5 : Int32) :
    (f_Op_mayBe op v1 v2 v3 v4 = some 0 ∧ f_Mo_operation mo mopn v1 v2 v3 v4 v5 = some (0, upd mo 0 1, mopn)) ∨
    ∃ k d a b, k < 5 ∧ d < 8 ∧ a < 9 ∧ b < 9 ∧ v1 = nI k ∧ v2 = nI d ∧ v3 = nI a ∧ v4 = nI b ∧ f_Op_mayBe op v1 v2 v3 v4 = some 1 ∧ f_Mo_operation mo mopn v1 v2 v3 v4 v5 = f_Mo_operation_60 mo mopn v1 v2 v3 v4 v5 1 := by
  unfold f_Op_mayBe f_Op_mayBe_26 f_Op_mayBe_54 f_Mo_operation f_Mo_operation_43 f_Mo_operation_53 f_Md_isWithin f_Mo_isSource
  rcases pk_ix v1 (n := 5) (by omega) with h1 | h1 | ⟨k, hk, rfl⟩
  · left
    simp (disch := omega) only [lI, nI_add, pk_mul, nI_leI, nI_ltI, nI_eq, ck_n, nm_n, nI_clamp, Option.bind_some, if_pos, if_neg, bk_n0, bk_n1, nI_sub, upd_s, mi_e, mi_ne, mi_ne2, mi_lt, mi_le, mi_nle, mi_nlt, mi_s, bt_shrE, bit_e, true_and, and_true, if_true, if_false, ne_eq, not_true_eq_false, not_false_eq_true, Bool.false_eq_true, Bool.true_eq_false, reduceCtorEq, neg_lt h1, neg_ne h1, mo57]
  · left
    simp (disch := omega) only [lI, nI_add, pk_mul, nI_leI, nI_ltI, nI_eq, ck_n, nm_n, nI_clamp, Option.bind_some, if_pos, if_neg, bk_n0, bk_n1, nI_sub, upd_s, mi_e, mi_ne, mi_ne2, mi_lt, mi_le, mi_nle, mi_nlt, mi_s, bt_shrE, bit_e, true_and, and_true, if_true, if_false, ne_eq, not_true_eq_false, not_false_eq_true, Bool.false_eq_true, Bool.true_eq_false, reduceCtorEq, big_nlt h1, big_gt h1, big_le h1, mo57]
  · by_cases hv4 : v2 < 0
    · left
      by_cases k4 : k = 4
      · simp (disch := omega) only [lI, nI_add, pk_mul, nI_leI, nI_ltI, nI_eq, ck_n, nm_n, nI_clamp, Option.bind_some, if_pos, if_neg, bk_n0, bk_n1, nI_sub, upd_s, mi_e, mi_ne, mi_ne2, mi_lt, mi_le, mi_nle, mi_nlt, mi_s, bt_shrE, bit_e, true_and, and_true, if_true, if_false, ne_eq, not_true_eq_false, not_false_eq_true, Bool.false_eq_true, Bool.true_eq_false, reduceCtorEq, neg_lt hv4, neg_ne hv4, mo57]
      · simp (disch := omega) only [lI, nI_add, pk_mul, nI_leI, nI_ltI, nI_eq, ck_n, nm_n, nI_clamp, Option.bind_some, if_pos, if_neg, bk_n0, bk_n1, nI_sub, upd_s, mi_e, mi_ne, mi_ne2, mi_lt, mi_le, mi_nle, mi_nlt, mi_s, bt_shrE, bit_e, true_and, and_true, if_true, if_false, ne_eq, not_true_eq_false, not_false_eq_true, Bool.false_eq_true, Bool.true_eq_false, reduceCtorEq, neg_lt hv4, neg_ne hv4, mo57]
    · rcases pk_ix v2 (n := 8) (by omega) with h2 | h2 | ⟨d, hd, rfl⟩
      · exact absurd h2 hv4
      · left
        by_cases k4 : k = 4
        · simp (disch := omega) only [lI, nI_add, pk_mul, nI_leI, nI_ltI, nI_eq, ck_n, nm_n, nI_clamp, Option.bind_some, if_pos, if_neg, bk_n0, bk_n1, nI_sub, upd_s, mi_e, mi_ne, mi_ne2, mi_lt, mi_le, mi_nle, mi_nlt, mi_s, bt_shrE, bit_e, true_and, and_true, if_true, if_false, ne_eq, not_true_eq_false, not_false_eq_true, Bool.false_eq_true, Bool.true_eq_false, reduceCtorEq, big_nlt h2, big_gt h2, big_le h2, mo57]
        · simp (disch := omega) only [lI, nI_add, pk_mul, nI_leI, nI_ltI, nI_eq, ck_n, nm_n, nI_clamp, Option.bind_some, if_pos, if_neg, bk_n0, bk_n1, nI_sub, upd_s, mi_e, mi_ne, mi_ne2, mi_lt, mi_le, mi_nle, mi_nlt, mi_s, bt_shrE, bit_e, true_and, and_true, if_true, if_false, ne_eq, not_true_eq_false, not_false_eq_true, Bool.false_eq_true, Bool.true_eq_false, reduceCtorEq, big_nlt h2, big_gt h2, big_le h2, mo57]
      · rcases pk_ix v3 (n := 9) (by omega) with h3 | h3 | ⟨a, ha, rfl⟩
        · left
          by_cases k4 : k = 4
          · by_cases d0 : d = 0
            · simp (disch := omega) only [lI, nI_add, pk_mul, nI_leI, nI_ltI, nI_eq, ck_n, nm_n, nI_clamp, Option.bind_some, if_pos, if_neg, bk_n0, bk_n1, nI_sub, upd_s, mi_e, mi_ne, mi_ne2, mi_lt, mi_le, mi_nle, mi_nlt, mi_s, bt_shrE, bit_e, true_and, and_true, if_true, if_false, ne_eq, not_true_eq_false, not_false_eq_true, Bool.false_eq_true, Bool.true_eq_false, reduceCtorEq, neg_lt h3, neg_ne h3, mo57]
            · simp (disch := omega) only [lI, nI_add, pk_mul, nI_leI, nI_ltI, nI_eq, ck_n, nm_n, nI_clamp, Option.bind_some, if_pos, if_neg, bk_n0, bk_n1, nI_sub, upd_s, mi_e, mi_ne, mi_ne2, mi_lt, mi_le, mi_nle, mi_nlt, mi_s, bt_shrE, bit_e, true_and, and_true, if_true, if_false, ne_eq, not_true_eq_false, not_false_eq_true, Bool.false_eq_true, Bool.true_eq_false, reduceCtorEq, neg_lt h3, neg_ne h3, mo57]
          · simp (disch := omega) only [lI, nI_add, pk_mul, nI_leI, nI_ltI, nI_eq, ck_n, nm_n, nI_clamp, Option.bind_some, if_pos, if_neg, bk_n0, bk_n1, nI_sub, upd_s, mi_e, mi_ne, mi_ne2, mi_lt, mi_le, mi_nle, mi_nlt, mi_s, bt_shrE, bit_e, true_and, and_true, if_true, if_false, ne_eq, not_true_eq_false, not_false_eq_true, Bool.false_eq_true, Bool.true_eq_false, reduceCtorEq, neg_lt h3, neg_ne h3, mo57]
        · left
          by_cases k4 : k = 4
          · by_cases d0 : d = 0
            · simp (disch := omega) only [lI, nI_add, pk_mul, nI_leI, nI_ltI, nI_eq, ck_n, nm_n, nI_clamp, Option.bind_some, if_pos, if_neg, bk_n0, bk_n1, nI_sub, upd_s, mi_e, mi_ne, mi_ne2, mi_lt, mi_le, mi_nle, mi_nlt, mi_s, bt_shrE, bit_e, true_and, and_true, if_true, if_false, ne_eq, not_true_eq_false, not_false_eq_true, Bool.false_eq_true, Bool.true_eq_false, reduceCtorEq, big_nlt h3, big_gt h3, big_le h3, mo57]
            · simp (disch := omega) only [lI, nI_add, pk_mul, nI_leI, nI_ltI, nI_eq, ck_n, nm_n, nI_clamp, Option.bind_some, if_pos, if_neg, bk_n0, bk_n1, nI_sub, upd_s, mi_e, mi_ne, mi_ne2, mi_lt, mi_le, mi_nle, mi_nlt, mi_s, bt_shrE, bit_e, true_and, and_true, if_true, if_false, ne_eq, not_true_eq_false, not_false_eq_true, Bool.false_eq_true, Bool.true_eq_false, reduceCtorEq, big_nlt h3, big_gt h3, big_le h3, mo57]
          · simp (disch := omega) only [lI, nI_add, pk_mul, nI_leI, nI_ltI, nI_eq, ck_n, nm_n, nI_clamp, Option.bind_some, if_pos, if_neg, bk_n0, bk_n1, nI_sub, upd_s, mi_e, mi_ne, mi_ne2, mi_lt, mi_le, mi_nle, mi_nlt, mi_s, bt_shrE, bit_e, true_and, and_true, if_true, if_false, ne_eq, not_true_eq_false, not_false_eq_true, Bool.false_eq_true, Bool.true_eq_false, reduceCtorEq, big_nlt h3, big_gt h3, big_le h3, mo57]
        · rcases pk_ix v4 (n := 9) (by omega) with h4 | h4 | ⟨b, hb, rfl⟩
          · left
            by_cases k4 : k = 4
            · by_cases d0 : d = 0
              · simp (disch := omega) only [lI, nI_add, pk_mul, nI_leI, nI_ltI, nI_eq, ck_n, nm_n, nI_clamp, Option.bind_some, if_pos, if_neg, bk_n0, bk_n1, nI_sub, upd_s, mi_e, mi_ne, mi_ne2, mi_lt, mi_le, mi_nle, mi_nlt, mi_s, bt_shrE, bit_e, true_and, and_true, if_true, if_false, ne_eq, not_true_eq_false, not_false_eq_true, Bool.false_eq_true, Bool.true_eq_false, reduceCtorEq, neg_lt h4, neg_ne h4, mo57]
              · simp (disch := omega) only [lI, nI_add, pk_mul, nI_leI, nI_ltI, nI_eq, ck_n, nm_n, nI_clamp, Option.bind_some, if_pos, if_neg, bk_n0, bk_n1, nI_sub, upd_s, mi_e, mi_ne, mi_ne2, mi_lt, mi_le, mi_nle, mi_nlt, mi_s, bt_shrE, bit_e, true_and, and_true, if_true, if_false, ne_eq, not_true_eq_false, not_false_eq_true, Bool.false_eq_true, Bool.true_eq_false, reduceCtorEq, neg_lt h4, neg_ne h4, mo57]
            · by_cases k3 : k = 3
              · simp (disch := omega) only [lI, nI_add, pk_mul, nI_leI, nI_ltI, nI_eq, ck_n, nm_n, nI_clamp, Option.bind_some, if_pos, if_neg, bk_n0, bk_n1, nI_sub, upd_s, mi_e, mi_ne, mi_ne2, mi_lt, mi_le, mi_nle, mi_nlt, mi_s, bt_shrE, bit_e, true_and, and_true, if_true, if_false, ne_eq, not_true_eq_false, not_false_eq_true, Bool.false_eq_true, Bool.true_eq_false, reduceCtorEq, neg_lt h4, neg_ne h4, mo57]
              · simp (disch := omega) only [lI, nI_add, pk_mul, nI_leI, nI_ltI, nI_eq, ck_n, nm_n, nI_clamp, Option.bind_some, if_pos, if_neg, bk_n0, bk_n1, nI_sub, upd_s, mi_e, mi_ne, mi_ne2, mi_lt, mi_le, mi_nle, mi_nlt, mi_s, bt_shrE, bit_e, true_and, and_true, if_true, if_false, ne_eq, not_true_eq_false, not_false_eq_true, Bool.false_eq_true, Bool.true_eq_false, reduceCtorEq, neg_lt h4, neg_ne h4, mo57]
          · left
            by_cases k4 : k = 4
            · by_cases d0 : d = 0
              · simp (disch := omega) only [lI, nI_add, pk_mul, nI_leI, nI_ltI, nI_eq, ck_n, nm_n, nI_clamp, Option.bind_some, if_pos, if_neg, bk_n0, bk_n1, nI_sub, upd_s, mi_e, mi_ne, mi_ne2, mi_lt, mi_le, mi_nle, mi_nlt, mi_s, bt_shrE, bit_e, true_and, and_true, if_true, if_false, ne_eq, not_true_eq_false, not_false_eq_true, Bool.false_eq_true, Bool.true_eq_false, reduceCtorEq, big_nlt h4, big_gt h4, big_le h4, mo57]
              · simp (disch := omega) only [lI, nI_add, pk_mul, nI_leI, nI_ltI, nI_eq, ck_n, nm_n, nI_clamp, Option.bind_some, if_pos, if_neg, bk_n0, bk_n1, nI_sub, upd_s, mi_e, mi_ne, mi_ne2, mi_lt, mi_le, mi_nle, mi_nlt, mi_s, bt_shrE, bit_e, true_and, and_true, if_true, if_false, ne_eq, not_true_eq_false, not_false_eq_true, Bool.false_eq_true, Bool.true_eq_false, reduceCtorEq, big_nlt h4, big_gt h4, big_le h4, mo57]
            · by_cases k3 : k = 3
              · simp (disch := omega) only [lI, nI_add, pk_mul, nI_leI, nI_ltI, nI_eq, ck_n, nm_n, nI_clamp, Option.bind_some, if_pos, if_neg, bk_n0, bk_n1, nI_sub, upd_s, mi_e, mi_ne, mi_ne2, mi_lt, mi_le, mi_nle, mi_nlt, mi_s, bt_shrE, bit_e, true_and, and_true, if_true, if_false, ne_eq, not_true_eq_false, not_false_eq_true, Bool.false_eq_true, Bool.true_eq_false, reduceCtorEq, big_nlt h4, big_gt h4, big_le h4, mo57]
              · simp (disch := omega) only [lI, nI_add, pk_mul, nI_leI, nI_ltI, nI_eq, ck_n, nm_n, nI_clamp, Option.bind_some, if_pos, if_neg, bk_n0, bk_n1, nI_sub, upd_s, mi_e, mi_ne, mi_ne2, mi_lt, mi_le, mi_nle, mi_nlt, mi_s, bt_shrE, bit_e, true_and, and_true, if_true, if_false, ne_eq, not_true_eq_false, not_false_eq_true, Bool.false_eq_true, Bool.true_eq_false, reduceCtorEq, big_nlt h4, big_gt h4, big_le h4, mo57]
          · by_cases bad : (k = 4 ∧ d ≠ 0) ∨ (k = 3 ∧ b ≠ 0)
            · left
              rcases bad with ⟨k4, d0⟩ | ⟨k3, b0⟩
              · simp (disch := omega) only [lI, nI_add, pk_mul, nI_leI, nI_ltI, nI_eq, ck_n, nm_n, nI_clamp, Option.bind_some, if_pos, if_neg, bk_n0, bk_n1, nI_sub, upd_s, mi_e, mi_ne, mi_ne2, mi_lt, mi_le, mi_nle, mi_nlt, mi_s, bt_shrE, bit_e, true_and, and_true, if_true, if_false, ne_eq, not_true_eq_false, not_false_eq_true, Bool.false_eq_true, Bool.true_eq_false, reduceCtorEq, mo57]
              · simp (disch := omega) only [lI, nI_add, pk_mul, nI_leI, nI_ltI, nI_eq, ck_n, nm_n, nI_clamp, Option.bind_some, if_pos, if_neg, bk_n0, bk_n1, nI_sub, upd_s, mi_e, mi_ne, mi_ne2, mi_lt, mi_le, mi_nle, mi_nlt, mi_s, bt_shrE, bit_e, true_and, and_true, if_true, if_false, ne_eq, not_true_eq_false, not_false_eq_true, Bool.false_eq_true, Bool.true_eq_false, reduceCtorEq, mo57]
            · right
              refine ⟨k, d, a, b, hk, hd, ha, hb, rfl, rfl, rfl, rfl, ?_⟩
              by_cases k4 : k = 4
              · have d0 : d = 0 := by omega
                simp (disch := omega) only [lI, nI_add, pk_mul, nI_leI, nI_ltI, nI_eq, ck_n, nm_n, nI_clamp, Option.bind_some, if_pos, if_neg, bk_n0, bk_n1, nI_sub, upd_s, mi_e, mi_ne, mi_ne2, mi_lt, mi_le, mi_nle, mi_nlt, mi_s, bt_shrE, bit_e, true_and, and_true, if_true, if_false, ne_eq, not_true_eq_false, not_false_eq_true, Bool.false_eq_true, Bool.true_eq_false, reduceCtorEq]
              · by_cases k3 : k = 3
                · have b0 : b = 0 := by omega
                  simp (disch := omega) only [lI, nI_add, pk_mul, nI_leI, nI_ltI, nI_eq, ck_n, nm_n, nI_clamp, Option.bind_some, if_pos, if_neg, bk_n0, bk_n1, nI_sub, upd_s, mi_e, mi_ne, mi_ne2, mi_lt, mi_le, mi_nle, mi_nlt, mi_s, bt_shrE, bit_e, true_and, and_true, if_true, if_false, ne_eq, not_true_eq_false, not_false_eq_true, Bool.false_eq_true, Bool.true_eq_false, reduceCtorEq]
                · simp (disch := omega) only [lI, nI_add, pk_mul, nI_leI, nI_ltI, nI_eq, ck_n, nm_n, nI_clamp, Option.bind_some, if_pos, if_neg, bk_n0, bk_n1, nI_sub, upd_s, mi_e, mi_ne, mi_ne2, mi_lt, mi_le, mi_nle, mi_nlt, mi_s, bt_shrE, bit_e, true_and, and_true, if_true, if_false, ne_eq, not_true_eq_false, not_false_eq_true, Bool.false_eq_true, Bool.true_eq_false, reduceCtorEq]
theorem upd_far {f : Nat → Int32} {k j : Nat} {x : Int32} (h : j < k) : upd f k x j = f j := upd_n (by omega)
theorem case_operation {r_md op ki tg fi se oc mo mopn : Nat → Int32} {out : Nat → Int64} (h : RO op ki tg fi se oc mo mopn) (v1 v2 v3 v4 v5 : Int32) :
    ∃ ya ym, f_La_operation r_md op ki tg fi se oc out v1 v2 v3 v4 v5 = some ya ∧ f_Mo_operation mo mopn v1 v2 v3 v4 v5 = some ym ∧ ym.2.1 0 = ya.1 ∧ (∀ j, j ≠ 0 → j ≠ 19 → ym.2.1 j = mo j) ∧ RO ya.2.1 ya.2.2.1 ya.2.2.2.1 ya.2.2.2.2.1 ya.2.2.2.2.2.1 ya.2.2.2.2.2.2.1 ym.2.1 ym.2.2 ∧ (ya.1 = 0 → ya.2.2.2.2.2.2.2 0 = ym.1.toInt64) := by
  obtain ⟨O, n, e1, e2, hn, h⟩ := h
  rcases mayBe_cases op mo mopn v1 v2 v3 v4 v5 with ⟨q1, q2⟩ | ⟨k, d, a, b, hk, hd, ha, hb, rfl, rfl, rfl, rfl, q1, q2⟩
  · refine ⟨(1, op, ki, tg, fi, se, oc, out), (0, upd mo 0 1, mopn), ?_, q2, upd_s mo 0 1, fun j hj _ => upd_n hj, ⟨O, n, e1, ?_, hn, h⟩, ?_⟩
    · unfold f_La_operation f_Md_operation
      rw [q1]; rfl
    · show upd mo 0 1 19 = _
      rw [upd_n (by omega)]; exact e2
    · intro hc; exact absurd hc (show ¬ (1 : Int32) = 0 by decide)
  · rw [q2]
    have e2' : ∀ x, upd mo 0 x 19 = nI n := fun x => by rw [upd_n (by omega)]; exact e2
    by_cases hn20 : n = 20
    · refine ⟨(2, op, ki, tg, fi, se, oc, out), (0, upd mo 0 2, mopn), ?_, ?_, upd_s mo 0 2, fun j hj _ => upd_n hj, ⟨O, n, e1, ?_, hn, h⟩, ?_⟩
      · unfold f_La_operation f_Md_operation
        rw [q1]
        unfold f_Op_count
        simp (disch := omega) only [lI, nI_add, pk_mul, nI_leI, nI_ltI, nI_eq, ck_n, nm_n, nI_clamp, Option.bind_some, if_pos, if_neg, bk_n0, bk_n1, nI_sub, upd_s, mi_e, mi_ne, mi_ne2, mi_lt, mi_le, mi_nle, mi_nlt, mi_s, bt_shrE, bit_e, true_and, and_true, if_true, if_false, ne_eq, not_true_eq_false, not_false_eq_true, Bool.false_eq_true, Bool.true_eq_false, reduceCtorEq, e1]
      · unfold f_Mo_operation_60 f_Mo_operation_87
        simp (disch := omega) only [lI, nI_add, pk_mul, nI_leI, nI_ltI, nI_eq, ck_n, nm_n, nI_clamp, Option.bind_some, if_pos, if_neg, bk_n0, bk_n1, nI_sub, upd_s, mi_e, mi_ne, mi_ne2, mi_lt, mi_le, mi_nle, mi_nlt, mi_s, bt_shrE, bit_e, true_and, and_true, if_true, if_false, ne_eq, not_true_eq_false, not_false_eq_true, Bool.false_eq_true, Bool.true_eq_false, reduceCtorEq, e2]
      · show upd mo 0 2 19 = _
        rw [upd_n (by omega)]; exact e2
      · intro hc; exact absurd hc (show ¬ (2 : Int32) = 0 by decide)
    · refine ⟨(0, upd op 6 (nI (n + 1)), upd ki n (nI k), upd tg n (nI d), upd fi n (nI a), upd se n (nI b), upd oc n v5, vp_updL out 0 (nI (n + 1)).toInt64), (nI (n + 1), upd (upd mo 0 0) 19 (nI (n + 1)), upd (upd (upd (upd (upd mopn (5 * n) (nI k)) (5 * n + 1) (nI d)) (5 * n + 2) (nI a)) (5 * n + 3) (nI b)) (5 * n + 4) v5), ?_, ?_, ?_, ?_, ⟨fun i => if i = n then (k, d, a, b, v5) else O i, n + 1, upd_s op 6 _, upd_s (upd mo 0 0) 19 _, by omega, ?_⟩, ?_⟩
      · unfold f_La_operation f_Md_operation
        rw [q1]
        unfold f_Op_count f_Op_append
        simp (disch := omega) only [lI, nI_add, pk_mul, nI_leI, nI_ltI, nI_eq, ck_n, nm_n, nI_clamp, Option.bind_some, if_pos, if_neg, bk_n0, bk_n1, nI_sub, upd_s, mi_e, mi_ne, mi_ne2, mi_lt, mi_le, mi_nle, mi_nlt, mi_s, bt_shrE, bit_e, true_and, and_true, if_true, if_false, ne_eq, not_true_eq_false, not_false_eq_true, Bool.false_eq_true, Bool.true_eq_false, reduceCtorEq, e1]
      · unfold f_Mo_operation_60 f_Mo_operation_87
        simp (disch := omega) only [lI, nI_add, pk_mul, nI_leI, nI_ltI, nI_eq, ck_n, nm_n, nI_clamp, Option.bind_some, if_pos, if_neg, bk_n0, bk_n1, nI_sub, upd_s, mi_e, mi_ne, mi_ne2, mi_lt, mi_le, mi_nle, mi_nlt, mi_s, bt_shrE, bit_e, true_and, and_true, if_true, if_false, ne_eq, not_true_eq_false, not_false_eq_true, Bool.false_eq_true, Bool.true_eq_false, reduceCtorEq, e2, e2']
      · show upd (upd mo 0 0) 19 (nI (n + 1)) 0 = 0
        rw [upd_n (by omega), upd_s]
      · intro j h0 h19
        show upd (upd mo 0 0) 19 (nI (n + 1)) j = _
        rw [upd_n h19, upd_n h0]
      · intro i hi
        by_cases hin : i = n
        · subst hin
          simp only [if_true, upd_s]
          refine ⟨trivial, trivial, trivial, trivial, trivial, ?_, ?_, ?_, ?_, trivial, hk, hd, ha, hb⟩
          · rw [upd_n (by omega), upd_n (by omega), upd_n (by omega), upd_n (by omega), upd_s]
          · rw [upd_n (by omega), upd_n (by omega), upd_n (by omega), upd_s]
          · rw [upd_n (by omega), upd_n (by omega), upd_s]
          · rw [upd_n (by omega), upd_s]
        · simp only [if_neg hin, upd_n hin]
          have hin2 : i < n := by omega
          rw [upd_far (show 5 * i < 5 * n + 4 by omega), upd_far (show 5 * i < 5 * n + 3 by omega), upd_far (show 5 * i < 5 * n + 2 by omega), upd_far (show 5 * i < 5 * n + 1 by omega), upd_far (show 5 * i < 5 * n by omega)]
          rw [upd_far (show 5 * i + 1 < 5 * n + 4 by omega), upd_far (show 5 * i + 1 < 5 * n + 3 by omega), upd_far (show 5 * i + 1 < 5 * n + 2 by omega), upd_far (show 5 * i + 1 < 5 * n + 1 by omega), upd_far (show 5 * i + 1 < 5 * n by omega)]
          rw [upd_far (show 5 * i + 2 < 5 * n + 4 by omega), upd_far (show 5 * i + 2 < 5 * n + 3 by omega), upd_far (show 5 * i + 2 < 5 * n + 2 by omega), upd_far (show 5 * i + 2 < 5 * n + 1 by omega), upd_far (show 5 * i + 2 < 5 * n by omega)]
          rw [upd_far (show 5 * i + 3 < 5 * n + 4 by omega), upd_far (show 5 * i + 3 < 5 * n + 3 by omega), upd_far (show 5 * i + 3 < 5 * n + 2 by omega), upd_far (show 5 * i + 3 < 5 * n + 1 by omega), upd_far (show 5 * i + 3 < 5 * n by omega)]
          rw [upd_far (show 5 * i + 4 < 5 * n + 4 by omega), upd_far (show 5 * i + 4 < 5 * n + 3 by omega), upd_far (show 5 * i + 4 < 5 * n + 2 by omega), upd_far (show 5 * i + 4 < 5 * n + 1 by omega), upd_far (show 5 * i + 4 < 5 * n by omega)]
          exact h i hin2
      · intro _; exact updL_s out 0 _
