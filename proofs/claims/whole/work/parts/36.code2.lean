theorem KD_bt {K : KT} {ta gu so cn de : Nat → Int32} (h : KD K ta gu so cn de) {c : Nat} (hc : c < 64) : (∀ b, b < 4 → bt (ta c) b = (K c b).isSome) ∧ ∀ b, 4 ≤ b → b < 32 → bt (ta c) b = false := by
  obtain ⟨⟨t, ht, e, h1⟩, _⟩ := h c hc
  refine ⟨fun b hb => ?_, fun b hb hb2 => ?_⟩
  · rw [e, bt_nI (by omega)]; exact h1 b hb
  · rw [e, bt_nI hb2]
    apply Nat.testBit_lt_two_pow
    exact Nat.lt_of_lt_of_le ht (Nat.pow_le_pow_right (n := 2) (by omega) hb)
theorem taken_n {B : Nat} {K : KT} {r_co ta gu so cn de mc : Nat → Int32} (h : RC B K ta gu so cn de mc) {c b : Nat} (hc : c < 64) (hb : b < 4) : f_Co_isTaken r_co ta (nI c) (nI b) = some (if (K c b).isSome = true then 1 else 0) := by
  unfold f_Co_isTaken
  simp (disch := omega) only [lI, nI_add, pk_mul, nI_leI, nI_ltI, nI_eq, ck_n, nm_n, nI_clamp, Option.bind_some, if_pos, if_neg, bk_n0, bk_n1, nI_sub, upd_s, mi_e, mi_ne, mi_ne2, mi_lt, mi_le, mi_nle, mi_nlt, mi_s, bt_shrE, bit_e, true_and, and_true, if_true, if_false, ne_eq, not_true_eq_false, not_false_eq_true, Bool.false_eq_true, Bool.true_eq_false, reduceCtorEq, (KD_bt h.2.1 hc).1 b hb]
  by_cases hs : (K c b).isSome = true
  · rw [hs]; rfl
  · rw [if_pos (by simpa using hs), if_neg hs]
theorem RC_drop {B : Nat} {K : KT} {ta gu so cn de mc : Nat → Int32} (h : RC B K ta gu so cn de mc) {c b : Nat} (hc : c < 64) (hb : b < 4) : RC B (kset K c b none) (upd ta c ((ta c) &&& (((1 : Int32) <<< (nI b &&& 31)) ^^^ (-1 : Int32)))) gu so cn de (upd mc (16 * c + 4 * b) (-1)) := by
  obtain ⟨hB, hD, hM, hV⟩ := h
  refine ⟨hB, fun c' hc' => ?_, fun c' hc' b' hb' => ?_, fun c' hc' b' hb' g' s' k' d' he => ?_⟩
  · obtain ⟨⟨t, ht, h1, h2⟩, h3⟩ := hD c' hc'
    refine ⟨?_, fun b' hb' g' s' k' d' he => ?_⟩
    · by_cases hcc : c' = c
      · subst hcc
        obtain ⟨q1, q2, q3⟩ := bit_clr t ht b hb
        refine ⟨_, q2, by rw [upd_s, h1]; exact q1, fun b' hb' => ?_⟩
        rw [q3 b' hb', h2 b' hb']
        by_cases hbb : b' = b
        · subst hbb; simp [kset_s]
        · rw [kset_n K _ (fun e => hbb e.2)]; simp [hbb]
      · exact ⟨t, ht, by rw [upd_n hcc]; exact h1, fun b' hb' => by rw [kset_n K _ (fun e => hcc e.1)]; exact h2 b' hb'⟩
    · by_cases hh : c' = c ∧ b' = b
      · obtain ⟨rfl, rfl⟩ := hh
        rw [kset_s] at he; cases he
      · rw [kset_n K _ hh] at he
        exact h3 b' hb' g' s' k' d' he
  · by_cases hh : c' = c ∧ b' = b
    · obtain ⟨rfl, rfl⟩ := hh
      rw [kset_s]
      exact ⟨fun _ => upd_s _ _ _, fun g' s' k' d' he => by cases he⟩
    · rw [kset_n K _ hh]
      obtain ⟨q1, q2⟩ := hM c' hc' b' hb'
      refine ⟨fun e => ?_, fun g' s' k' d' he => ?_⟩
      · rw [upd_n (by omega)]; exact q1 e
      · obtain ⟨r1, r2, r3, r4⟩ := q2 g' s' k' d' he
        rw [upd_n (by omega), upd_n (by omega), upd_n (by omega), upd_n (by omega)]
        exact ⟨r1, r2, r3, r4⟩
  · by_cases hh : c' = c ∧ b' = b
    · obtain ⟨rfl, rfl⟩ := hh
      rw [kset_s] at he; cases he
    · rw [kset_n K _ hh] at he
      exact hV c' hc' b' hb' g' s' k' d' he
/-- the guard's cell of the model says whether a move lies there -/
theorem KM_none {B : Nat} {K : KT} {ta gu so cn de mc : Nat → Int32} (h : RC B K ta gu so cn de mc) {c b : Nat} (hc : c < 64) (hb : b < 4) : (mc (16 * c + 4 * b) = mi) = ((K c b).isSome = false) := by
  obtain ⟨q1, q2⟩ := h.2.2.1 c hc b hb
  rcases hk : K c b with _ | ⟨g, s, k, d⟩
  · rw [q1 hk]; simp; rfl
  · have hg := (h.2.2.2 c hc b hb g s k d hk).2.1
    rw [(q2 g s k d hk).1, mi_ne (by omega)]; simp
theorem case_free {B : Nat} {K : KT} {r_md r_co ta gu so cn de r_mo mc : Nat → Int32} {out : Nat → Int64} (h : RC B K ta gu so cn de mc) (hB : r_co 0 = nI B) (hB2 : r_mo 1 = nI B) (v1 v2 : Int32) :
    ∃ ya ym, f_La_free r_md r_co ta out v1 v2 = some ya ∧ f_Mo_free r_mo mc v1 v2 = some ym ∧ ym.2.1 0 = ya.1 ∧ mk0 r_mo ym.2.1 ∧ (ya.1 = 0 → ya.2.2 0 = if ym.1 = 0 then 0 else 1) ∧ ∃ K', RC B K' ya.2.1 gu so cn de ym.2.2 := by
  have hp : f_Mo_isPlace r_mo v1 v2 = f_Co_reaches r_co v1 v2 := isPlace_eq (by rw [hB, hB2]) v1 v2
  rcases reaches_cases hB h.1 v1 v2 with hr | ⟨c, b, hc, hb, rfl, rfl, hr⟩
  · refine ⟨(1, ta, out), (0, upd r_mo 0 1, mc), ?_, ?_, upd_s r_mo 0 1, mk0_upd _ _, ?_, K, h⟩
    · unfold f_La_free f_Md_free
      rw [hr]; rfl
    · unfold f_Mo_free f_Mo_free_18
      rw [hp, hr]
      simp (disch := omega) only [lI, nI_add, pk_mul, nI_leI, nI_ltI, nI_eq, ck_n, nm_n, nI_clamp, Option.bind_some, if_pos, if_neg, bk_n0, bk_n1, nI_sub, upd_s, mi_e, mi_ne, mi_ne2, mi_lt, mi_le, mi_nle, mi_nlt, mi_s, bt_shrE, bit_e, true_and, and_true, if_true, if_false, ne_eq, not_true_eq_false, not_false_eq_true, Bool.false_eq_true, Bool.true_eq_false, reduceCtorEq]
    · intro hc; exact absurd hc (show ¬ (1 : Int32) = 0 by decide)
  · have hb4 : b < 4 := Nat.lt_of_lt_of_le hb h.1.2
    have hk := KM_none h hc hb4
    have ht := taken_n (r_co := r_co) h hc hb4
    by_cases hs : (K c b).isSome = true
    · refine ⟨(0, upd ta c ((ta c) &&& (((1 : Int32) <<< (nI b &&& 31)) ^^^ (-1 : Int32))), vp_updL out 0 1), (1, upd r_mo 0 0, upd mc (16 * c + 4 * b) (-1)), ?_, ?_, upd_s r_mo 0 0, mk0_upd _ _, ?_, _, RC_drop h hc hb4⟩
      · unfold f_La_free f_Md_free f_Co_drop
        rw [hr, ht, if_pos hs]
        simp (disch := omega) only [lI, nI_add, pk_mul, nI_leI, nI_ltI, nI_eq, ck_n, nm_n, nI_clamp, Option.bind_some, if_pos, if_neg, bk_n0, bk_n1, nI_sub, upd_s, mi_e, mi_ne, mi_ne2, mi_lt, mi_le, mi_nle, mi_nlt, mi_s, bt_shrE, bit_e, true_and, and_true, if_true, if_false, ne_eq, not_true_eq_false, not_false_eq_true, Bool.false_eq_true, Bool.true_eq_false, reduceCtorEq]
      · unfold f_Mo_free f_Mo_free_18 f_Mo_free_47
        rw [hp, hr]
        simp (disch := omega) only [lI, nI_add, pk_mul, nI_leI, nI_ltI, nI_eq, ck_n, nm_n, nI_clamp, Option.bind_some, if_pos, if_neg, bk_n0, bk_n1, nI_sub, upd_s, mi_e, mi_ne, mi_ne2, mi_lt, mi_le, mi_nle, mi_nlt, mi_s, bt_shrE, bit_e, true_and, and_true, if_true, if_false, ne_eq, not_true_eq_false, not_false_eq_true, Bool.false_eq_true, Bool.true_eq_false, reduceCtorEq, at_n, hk, hs]
      · intro _; exact updL_s out 0 1
    · refine ⟨(0, upd ta c ((ta c) &&& (((1 : Int32) <<< (nI b &&& 31)) ^^^ (-1 : Int32))), vp_updL out 0 0), (0, upd r_mo 0 0, upd mc (16 * c + 4 * b) (-1)), ?_, ?_, upd_s r_mo 0 0, mk0_upd _ _, ?_, _, RC_drop h hc hb4⟩
      · unfold f_La_free f_Md_free f_Co_drop
        rw [hr, ht, if_neg hs]
        simp (disch := omega) only [lI, nI_add, pk_mul, nI_leI, nI_ltI, nI_eq, ck_n, nm_n, nI_clamp, Option.bind_some, if_pos, if_neg, bk_n0, bk_n1, nI_sub, upd_s, mi_e, mi_ne, mi_ne2, mi_lt, mi_le, mi_nle, mi_nlt, mi_s, bt_shrE, bit_e, true_and, and_true, if_true, if_false, ne_eq, not_true_eq_false, not_false_eq_true, Bool.false_eq_true, Bool.true_eq_false, reduceCtorEq]
      · have hs' : (K c b).isSome = false := by simpa using hs
        unfold f_Mo_free f_Mo_free_18 f_Mo_free_47
        rw [hp, hr]
        simp (disch := omega) only [lI, nI_add, pk_mul, nI_leI, nI_ltI, nI_eq, ck_n, nm_n, nI_clamp, Option.bind_some, if_pos, if_neg, bk_n0, bk_n1, nI_sub, upd_s, mi_e, mi_ne, mi_ne2, mi_lt, mi_le, mi_nle, mi_nlt, mi_s, bt_shrE, bit_e, true_and, and_true, if_true, if_false, ne_eq, not_true_eq_false, not_false_eq_true, Bool.false_eq_true, Bool.true_eq_false, reduceCtorEq, at_n, hk, hs']
      · intro _; exact updL_s out 0 0
theorem case_moveAt {B : Nat} {K : KT} {r_md r_co ta gu so cn de r_mo mc : Nat → Int32} (h : RC B K ta gu so cn de mc) (hB : r_co 0 = nI B) (hB2 : r_mo 1 = nI B) (v1 v2 v3 : Int32) :
    ∃ ya, f_Md_moveAt r_md r_co ta gu so cn de v1 v2 v3 = some ya ∧ f_Mo_moveAt r_mo mc v1 v2 v3 = some (ya, upd r_mo 0 0) := by
  have hp : f_Mo_isPlace (upd r_mo 0 0) v1 v2 = f_Co_reaches r_co v1 v2 := isPlace_eq (by rw [upd_n (by omega), hB, hB2]) v1 v2
  unfold f_Md_moveAt f_Mo_moveAt f_Mo_moveAt_37
  rw [hp]
  rcases reaches_cases hB h.1 v1 v2 with hr | ⟨c, b, hc, hb, rfl, rfl, hr⟩
  · rw [hr]; exact ⟨_, rfl, rfl⟩
  · rw [hr]
    have hb4 : b < 4 := Nat.lt_of_lt_of_le hb h.1.2
    have hk := KM_none h hc hb4
    rw [Option.bind_some, Option.bind_some, if_neg (show ¬ (1 : Int32) = 0 by decide), taken_n h hc hb4]
    rcases hs : K c b with _ | ⟨g, s, k, d⟩
    · refine ⟨-1, rfl, ?_⟩
      rw [hs] at hk
      by_cases h1 : v3 < 0
      · rw [if_neg (show ¬ (1 : Int32) = 0 by decide), if_pos h1]
      · by_cases h2 : (3 : Int32) < v3
        · rw [if_neg (show ¬ (1 : Int32) = 0 by decide), if_neg h1, if_pos h2]
        · rw [if_neg (show ¬ (1 : Int32) = 0 by decide), if_neg h1, if_neg h2]
          simp (disch := omega) only [lI, nI_add, pk_mul, nI_leI, nI_ltI, nI_eq, ck_n, nm_n, nI_clamp, Option.bind_some, if_pos, if_neg, bk_n0, bk_n1, nI_sub, upd_s, mi_e, mi_ne, mi_ne2, mi_lt, mi_le, mi_nle, mi_nlt, mi_s, bt_shrE, bit_e, true_and, and_true, if_true, if_false, ne_eq, not_true_eq_false, not_false_eq_true, Bool.false_eq_true, Bool.true_eq_false, reduceCtorEq, at_n, hk, Option.isSome_none]
    · rw [hs] at hk
      obtain ⟨m1, m2, m3, m4⟩ := (h.2.2.1 c hc b hb4).2 g s k d hs
      obtain ⟨d1, d2, d3, d4⟩ := (h.2.1 c hc).2 b hb4 g s k d hs
      have hg8 := (h.2.2.2 c hc b hb4 g s k d hs).2.1
      unfold f_Co_part f_Co_source f_Co_constant f_Co_destination
      rcases pk_ix v3 (n := 4) (by omega) with hv | hv | ⟨j, hj, rfl⟩
      · refine ⟨-1, ?_, ?_⟩
        · simp (disch := omega) only [lI, nI_add, pk_mul, nI_leI, nI_ltI, nI_eq, ck_n, nm_n, nI_clamp, Option.bind_some, if_pos, if_neg, bk_n0, bk_n1, nI_sub, upd_s, mi_e, mi_ne, mi_ne2, mi_lt, mi_le, mi_nle, mi_nlt, mi_s, bt_shrE, bit_e, true_and, and_true, if_true, if_false, ne_eq, not_true_eq_false, not_false_eq_true, Bool.false_eq_true, Bool.true_eq_false, reduceCtorEq, neg_lt hv, neg_ne hv, Option.isSome_some]
        · rw [if_neg (show ¬ (1 : Int32) = 0 by decide), if_pos hv]
      · refine ⟨-1, ?_, ?_⟩
        · simp (disch := omega) only [lI, nI_add, pk_mul, nI_leI, nI_ltI, nI_eq, ck_n, nm_n, nI_clamp, Option.bind_some, if_pos, if_neg, bk_n0, bk_n1, nI_sub, upd_s, mi_e, mi_ne, mi_ne2, mi_lt, mi_le, mi_nle, mi_nlt, mi_s, bt_shrE, bit_e, true_and, and_true, if_true, if_false, ne_eq, not_true_eq_false, not_false_eq_true, Bool.false_eq_true, Bool.true_eq_false, reduceCtorEq, big_ne hv, Option.isSome_some]
        · simp (disch := omega) only [lI, nI_add, pk_mul, nI_leI, nI_ltI, nI_eq, ck_n, nm_n, nI_clamp, Option.bind_some, if_pos, if_neg, bk_n0, bk_n1, nI_sub, upd_s, mi_e, mi_ne, mi_ne2, mi_lt, mi_le, mi_nle, mi_nlt, mi_s, bt_shrE, bit_e, true_and, and_true, if_true, if_false, ne_eq, not_true_eq_false, not_false_eq_true, Bool.false_eq_true, Bool.true_eq_false, reduceCtorEq, big_gt hv, big_nlt hv, Option.isSome_some]
      · rcases (show j = 0 ∨ j = 1 ∨ j = 2 ∨ j = 3 by omega) with rfl | rfl | rfl | rfl
        · simp (disch := omega) only [lI, nI_add, pk_mul, nI_leI, nI_ltI, nI_eq, ck_n, nm_n, nI_clamp, Option.bind_some, if_pos, if_neg, bk_n0, bk_n1, nI_sub, upd_s, mi_e, mi_ne, mi_ne2, mi_lt, mi_le, mi_nle, mi_nlt, mi_s, bt_shrE, bit_e, true_and, and_true, if_true, if_false, ne_eq, not_true_eq_false, not_false_eq_true, Bool.false_eq_true, Bool.true_eq_false, reduceCtorEq, at_n, hk, Option.isSome_some, d1, Nat.add_zero, m1]
          exact ⟨_, rfl, rfl⟩
        · simp (disch := omega) only [lI, nI_add, pk_mul, nI_leI, nI_ltI, nI_eq, ck_n, nm_n, nI_clamp, Option.bind_some, if_pos, if_neg, bk_n0, bk_n1, nI_sub, upd_s, mi_e, mi_ne, mi_ne2, mi_lt, mi_le, mi_nle, mi_nlt, mi_s, bt_shrE, bit_e, true_and, and_true, if_true, if_false, ne_eq, not_true_eq_false, not_false_eq_true, Bool.false_eq_true, Bool.true_eq_false, reduceCtorEq, at_n, hk, Option.isSome_some, d2, m2]
          exact ⟨_, rfl, rfl⟩
        · simp (disch := omega) only [lI, nI_add, pk_mul, nI_leI, nI_ltI, nI_eq, ck_n, nm_n, nI_clamp, Option.bind_some, if_pos, if_neg, bk_n0, bk_n1, nI_sub, upd_s, mi_e, mi_ne, mi_ne2, mi_lt, mi_le, mi_nle, mi_nlt, mi_s, bt_shrE, bit_e, true_and, and_true, if_true, if_false, ne_eq, not_true_eq_false, not_false_eq_true, Bool.false_eq_true, Bool.true_eq_false, reduceCtorEq, at_n, hk, Option.isSome_some, d3, m3]
          exact ⟨_, rfl, rfl⟩
        · simp (disch := omega) only [lI, nI_add, pk_mul, nI_leI, nI_ltI, nI_eq, ck_n, nm_n, nI_clamp, Option.bind_some, if_pos, if_neg, bk_n0, bk_n1, nI_sub, upd_s, mi_e, mi_ne, mi_ne2, mi_lt, mi_le, mi_nle, mi_nlt, mi_s, bt_shrE, bit_e, true_and, and_true, if_true, if_false, ne_eq, not_true_eq_false, not_false_eq_true, Bool.false_eq_true, Bool.true_eq_false, reduceCtorEq, at_n, hk, Option.isSome_some, d4, m4]
          exact ⟨_, rfl, rfl⟩
