theorem neg_lt {v : Int32} (h : v < 0) {k : Nat} (hk : k < 2 ^ 31) : (v < nI k) = True := eq_true (Int32.lt_of_lt_of_le h (nI_pos' hk))
theorem neg_ne {v : Int32} (h : v < 0) {k : Nat} (hk : k < 2 ^ 31) : (v = nI k) = False := eq_false (fun e => nI_pos hk (e ▸ h))
theorem neg_nlt {v : Int32} (h : v < 0) {k : Nat} (hk : k < 2 ^ 31) : (nI k < v) = False := eq_false (Int32.not_lt.mpr (Int32.le_of_lt (Int32.lt_of_lt_of_le h (nI_pos' hk))))
theorem neg_nle {v : Int32} (h : v < 0) {k : Nat} (hk : k < 2 ^ 31) : (nI k ≤ v) = False := eq_false (Int32.not_le.mpr (Int32.lt_of_lt_of_le h (nI_pos' hk)))
theorem big_gt {v : Int32} {n : Nat} (h : nI n ≤ v) {k : Nat} (hk : k < n) (hn : n < 2 ^ 31) : (nI k < v) = True := eq_true (Int32.lt_of_lt_of_le (nI_lt hk hn) h)
theorem big_nlt {v : Int32} {n : Nat} (h : nI n ≤ v) {k : Nat} (hk : k ≤ n) (hn : n < 2 ^ 31) : (v < nI k) = False := eq_false (Int32.not_lt.mpr (Int32.le_trans (nI_le hk hn) h))
theorem big_ne {v : Int32} {n : Nat} (h : nI n ≤ v) {k : Nat} (hk : k < n) (hn : n < 2 ^ 31) : (v = nI k) = False := eq_false (fun e => nI_ge hk hn (e ▸ h))
theorem big_nle {v : Int32} {n : Nat} (h : nI n ≤ v) {k : Nat} (hk : k < n) (hn : n < 2 ^ 31) : (v ≤ nI k) = False := eq_false (Int32.not_le.mpr (Int32.lt_of_lt_of_le (nI_lt hk hn) h))
theorem big_le {v : Int32} {n : Nat} (h : nI n ≤ v) {k : Nat} (hk : k ≤ n) (hn : n < 2 ^ 31) : (nI k ≤ v) = True := eq_true (Int32.le_trans (nI_le hk hn) h)
-- ===== the machine's state, as both hold it =====
def RM (ma od rs mo mopd mres mhad : Nat → Int32) : Prop :=
  (∀ u, u < 3 → od u = mopd u) ∧ (∀ u, u < 3 → rs u = mres u) ∧ (∀ u, u < 3 → mhad u = if bt (ma 10) u = true then nI 1 else nI 0) ∧ (∀ i, 3 ≤ i → i < 32 → bt (ma 10) i = false) ∧ ma 11 = mo 9 ∧ (∃ p, p < 64 ∧ ma 12 = nI p ∧ mo 10 = nI p) ∧ (∃ j, j ≤ 3 ∧ ma 13 = nI j ∧ mo 11 = nI j ∧ (0 < j → ∃ t, t < 64 ∧ ma 14 = nI t ∧ mo 12 = nI t)) ∧ (∃ h, h ≤ 1 ∧ ma 15 = nI h ∧ mo 14 = nI h)
theorem case_state {ma od rs mo mopd mres mhad : Nat → Int32} (h : RM ma od rs mo mopd mres mhad) (v : Int32) :
    ∃ ya ym, f_Ma_show ma od rs v = some ya ∧ f_Mo_state mo mopd mres mhad v = some ym ∧ ym.1 = ya ∧ ym.2 = upd mo 0 0 := by
  obtain ⟨h1, h2, h3, h4, h5, ⟨p, hp, e1, e2⟩, ⟨j, hj, e3, e4, e5⟩, ⟨q, hq, e6, e7⟩⟩ := h
  rcases pk_ix v (n := 16) (by omega) with hv | hv | ⟨k, hk, rfl⟩
  · refine ⟨0, (0, upd mo 0 0), ?_, ?_, rfl, rfl⟩
    · unfold f_Ma_show f_Ma_show_48 f_Ma_show_70 f_Ma_show_94 f_Ma_show_116
      simp (disch := omega) only [lI, nI_add, pk_mul, nI_leI, nI_ltI, nI_eq, ck_n, nm_n, nI_clamp, Option.bind_some, if_pos, if_neg, bk_n0, bk_n1, nI_sub, upd_s, mi_e, mi_ne, mi_ne2, mi_lt, mi_le, mi_nle, mi_nlt, mi_s, bt_shrE, bit_e, true_and, and_true, if_true, if_false, ne_eq, not_true_eq_false, not_false_eq_true, Bool.false_eq_true, Bool.true_eq_false, reduceCtorEq, neg_lt hv, neg_ne hv]
    · unfold f_Mo_state
      rw [if_pos hv]
  · refine ⟨0, (0, upd mo 0 0), ?_, ?_, rfl, rfl⟩
    · unfold f_Ma_show f_Ma_show_48 f_Ma_show_70 f_Ma_show_94 f_Ma_show_116
      simp (disch := omega) only [lI, nI_add, pk_mul, nI_leI, nI_ltI, nI_eq, ck_n, nm_n, nI_clamp, Option.bind_some, if_pos, if_neg, bk_n0, bk_n1, nI_sub, upd_s, mi_e, mi_ne, mi_ne2, mi_lt, mi_le, mi_nle, mi_nlt, mi_s, bt_shrE, bit_e, true_and, and_true, if_true, if_false, ne_eq, not_true_eq_false, not_false_eq_true, Bool.false_eq_true, Bool.true_eq_false, reduceCtorEq, big_gt hv, big_ne hv, big_nlt hv]
    · unfold f_Mo_state
      simp (disch := omega) only [lI, nI_add, pk_mul, nI_leI, nI_ltI, nI_eq, ck_n, nm_n, nI_clamp, Option.bind_some, if_pos, if_neg, bk_n0, bk_n1, nI_sub, upd_s, mi_e, mi_ne, mi_ne2, mi_lt, mi_le, mi_nle, mi_nlt, mi_s, bt_shrE, bit_e, true_and, and_true, if_true, if_false, ne_eq, not_true_eq_false, not_false_eq_true, Bool.false_eq_true, Bool.true_eq_false, reduceCtorEq, big_nlt hv, big_nle hv]
  · unfold f_Ma_show f_Ma_show_48 f_Ma_show_70 f_Ma_show_94 f_Ma_show_116 f_Mo_state
    rcases (show k = 0 ∨ k = 1 ∨ k = 15 ∨ (2 ≤ k ∧ k < 6) ∨ (6 ≤ k ∧ k < 9) ∨ (9 ≤ k ∧ k < 12) ∨ (12 ≤ k ∧ k < 15) by omega) with rfl | rfl | rfl | hk | hk | hk | hk
    · simp (disch := omega) only [lI, nI_add, pk_mul, nI_leI, nI_ltI, nI_eq, ck_n, nm_n, nI_clamp, Option.bind_some, if_pos, if_neg, bk_n0, bk_n1, nI_sub, upd_s, mi_e, mi_ne, mi_ne2, mi_lt, mi_le, mi_nle, mi_nlt, mi_s, bt_shrE, bit_e, true_and, and_true, if_true, if_false, ne_eq, not_true_eq_false, not_false_eq_true, Bool.false_eq_true, Bool.true_eq_false, reduceCtorEq, e1, e2]
      exact ⟨_, _, rfl, rfl, rfl, rfl⟩
    · simp (disch := omega) only [lI, nI_add, pk_mul, nI_leI, nI_ltI, nI_eq, ck_n, nm_n, nI_clamp, Option.bind_some, if_pos, if_neg, bk_n0, bk_n1, nI_sub, upd_s, mi_e, mi_ne, mi_ne2, mi_lt, mi_le, mi_nle, mi_nlt, mi_s, bt_shrE, bit_e, true_and, and_true, if_true, if_false, ne_eq, not_true_eq_false, not_false_eq_true, Bool.false_eq_true, Bool.true_eq_false, reduceCtorEq, e6, e7]
      by_cases hq0 : q = 0
      · simp (disch := omega) only [lI, nI_add, pk_mul, nI_leI, nI_ltI, nI_eq, ck_n, nm_n, nI_clamp, Option.bind_some, if_pos, if_neg, bk_n0, bk_n1, nI_sub, upd_s, mi_e, mi_ne, mi_ne2, mi_lt, mi_le, mi_nle, mi_nlt, mi_s, bt_shrE, bit_e, true_and, and_true, if_true, if_false, ne_eq, not_true_eq_false, not_false_eq_true, Bool.false_eq_true, Bool.true_eq_false, reduceCtorEq]; exact ⟨_, _, rfl, rfl, rfl, rfl⟩
      · simp (disch := omega) only [lI, nI_add, pk_mul, nI_leI, nI_ltI, nI_eq, ck_n, nm_n, nI_clamp, Option.bind_some, if_pos, if_neg, bk_n0, bk_n1, nI_sub, upd_s, mi_e, mi_ne, mi_ne2, mi_lt, mi_le, mi_nle, mi_nlt, mi_s, bt_shrE, bit_e, true_and, and_true, if_true, if_false, ne_eq, not_true_eq_false, not_false_eq_true, Bool.false_eq_true, Bool.true_eq_false, reduceCtorEq]; exact ⟨_, _, rfl, rfl, rfl, rfl⟩
    · simp (disch := omega) only [lI, nI_add, pk_mul, nI_leI, nI_ltI, nI_eq, ck_n, nm_n, nI_clamp, Option.bind_some, if_pos, if_neg, bk_n0, bk_n1, nI_sub, upd_s, mi_e, mi_ne, mi_ne2, mi_lt, mi_le, mi_nle, mi_nlt, mi_s, bt_shrE, bit_e, true_and, and_true, if_true, if_false, ne_eq, not_true_eq_false, not_false_eq_true, Bool.false_eq_true, Bool.true_eq_false, reduceCtorEq, e3, e4]
      exact ⟨_, _, rfl, rfl, rfl, rfl⟩
    · simp (disch := omega) only [lI, nI_add, pk_mul, nI_leI, nI_ltI, nI_eq, ck_n, nm_n, nI_clamp, Option.bind_some, if_pos, if_neg, bk_n0, bk_n1, nI_sub, upd_s, mi_e, mi_ne, mi_ne2, mi_lt, mi_le, mi_nle, mi_nlt, mi_s, bt_shrE, bit_e, true_and, and_true, if_true, if_false, ne_eq, not_true_eq_false, not_false_eq_true, Bool.false_eq_true, Bool.true_eq_false, reduceCtorEq, h5]
      exact ⟨_, _, rfl, rfl, rfl, rfl⟩
    · simp (disch := omega) only [lI, nI_add, pk_mul, nI_leI, nI_ltI, nI_eq, ck_n, nm_n, nI_clamp, Option.bind_some, if_pos, if_neg, bk_n0, bk_n1, nI_sub, upd_s, mi_e, mi_ne, mi_ne2, mi_lt, mi_le, mi_nle, mi_nlt, mi_s, bt_shrE, bit_e, true_and, and_true, if_true, if_false, ne_eq, not_true_eq_false, not_false_eq_true, Bool.false_eq_true, Bool.true_eq_false, reduceCtorEq, h1 (k - 6) (by omega)]
      exact ⟨_, _, rfl, rfl, rfl, rfl⟩
    · simp (disch := omega) only [lI, nI_add, pk_mul, nI_leI, nI_ltI, nI_eq, ck_n, nm_n, nI_clamp, Option.bind_some, if_pos, if_neg, bk_n0, bk_n1, nI_sub, upd_s, mi_e, mi_ne, mi_ne2, mi_lt, mi_le, mi_nle, mi_nlt, mi_s, bt_shrE, bit_e, true_and, and_true, if_true, if_false, ne_eq, not_true_eq_false, not_false_eq_true, Bool.false_eq_true, Bool.true_eq_false, reduceCtorEq, h3 (k - 9) (by omega), bt_shr1E]
      by_cases hb : bt (ma 10) (k - 9) = true
      · rw [if_pos hb]; simp (disch := omega) only [lI, nI_add, pk_mul, nI_leI, nI_ltI, nI_eq, ck_n, nm_n, nI_clamp, Option.bind_some, if_pos, if_neg, bk_n0, bk_n1, nI_sub, upd_s, mi_e, mi_ne, mi_ne2, mi_lt, mi_le, mi_nle, mi_nlt, mi_s, bt_shrE, bit_e, true_and, and_true, if_true, if_false, ne_eq, not_true_eq_false, not_false_eq_true, Bool.false_eq_true, Bool.true_eq_false, reduceCtorEq]; exact ⟨_, _, rfl, rfl, rfl, rfl⟩
      · rw [if_neg hb]; simp (disch := omega) only [lI, nI_add, pk_mul, nI_leI, nI_ltI, nI_eq, ck_n, nm_n, nI_clamp, Option.bind_some, if_pos, if_neg, bk_n0, bk_n1, nI_sub, upd_s, mi_e, mi_ne, mi_ne2, mi_lt, mi_le, mi_nle, mi_nlt, mi_s, bt_shrE, bit_e, true_and, and_true, if_true, if_false, ne_eq, not_true_eq_false, not_false_eq_true, Bool.false_eq_true, Bool.true_eq_false, reduceCtorEq]; exact ⟨_, _, rfl, rfl, rfl, rfl⟩
    · simp (disch := omega) only [lI, nI_add, pk_mul, nI_leI, nI_ltI, nI_eq, ck_n, nm_n, nI_clamp, Option.bind_some, if_pos, if_neg, bk_n0, bk_n1, nI_sub, upd_s, mi_e, mi_ne, mi_ne2, mi_lt, mi_le, mi_nle, mi_nlt, mi_s, bt_shrE, bit_e, true_and, and_true, if_true, if_false, ne_eq, not_true_eq_false, not_false_eq_true, Bool.false_eq_true, Bool.true_eq_false, reduceCtorEq, h2 (k - 12) (by omega)]
      exact ⟨_, _, rfl, rfl, rfl, rfl⟩
-- ===== fault =====
theorem case_fault {r_md r_mo : Nat → Int32} (h5 : r_md 5 = r_mo 25) (h6 : r_md 6 = r_mo 13) (v : Int32) :
    ∃ ya, f_Md_fault r_md v = some ya ∧ f_Mo_fault r_mo v = some (ya, upd r_mo 0 0) := by
  unfold f_Md_fault f_Mo_fault
  by_cases h0 : v = 0
  · rw [if_pos h0, if_pos h0, h5]; exact ⟨_, rfl, rfl⟩
  · rw [if_neg h0, if_neg h0]
    by_cases h1 : v = 1
    · rw [if_pos h1, if_pos h1, h6]; exact ⟨_, rfl, rfl⟩
    · rw [if_neg h1, if_neg h1]; exact ⟨_, rfl, rfl⟩
-- ===== operations =====
/-- the list of operations: kind, d, a, b, c -/
def OL (O : Nat → Nat × Nat × Nat × Nat × Int32) (n : Nat) (ki tg fi se oc mopn : Nat → Int32) : Prop :=
  n ≤ 20 ∧ ∀ i, i < n → ki i = nI (O i).1 ∧ tg i = nI (O i).2.1 ∧ fi i = nI (O i).2.2.1 ∧ se i = nI (O i).2.2.2.1 ∧ oc i = (O i).2.2.2.2 ∧ mopn (5 * i) = nI (O i).1 ∧ mopn (5 * i + 1) = nI (O i).2.1 ∧ mopn (5 * i + 2) = nI (O i).2.2.1 ∧ mopn (5 * i + 3) = nI (O i).2.2.2.1 ∧ mopn (5 * i + 4) = (O i).2.2.2.2 ∧ (O i).1 < 5 ∧ (O i).2.1 < 8 ∧ (O i).2.2.1 < 9 ∧ (O i).2.2.2.1 < 9
def RO (op ki tg fi se oc mo mopn : Nat → Int32) : Prop := ∃ O n, op 6 = nI n ∧ mo 19 = nI n ∧ OL O n ki tg fi se oc mopn
theorem case_forget {r_md op ki tg fi se oc mo mopn : Nat → Int32} (h : RO op ki tg fi se oc mo mopn) :
    ∃ ya, f_Md_forget r_md op = some (ya, upd op 6 0) ∧ f_Mo_forget mo = some (ya, upd (upd mo 0 0) 19 0) ∧ RO (upd op 6 0) ki tg fi se oc (upd (upd mo 0 0) 19 0) mopn := by
  obtain ⟨O, n, e1, e2, h⟩ := h
  refine ⟨nI n, ?_, ?_, O, 0, upd_s op 6 0, upd_s (upd mo 0 0) 19 0, by omega, fun i hi => by omega⟩
  · unfold f_Md_forget f_Op_drop; rw [e1]; rfl
  · unfold f_Mo_forget; rw [e2]; rfl
