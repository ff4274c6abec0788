-- ===== latest cycles =====
def pr (w : Nat) : Int32 := match w with | 0 => mi | w + 1 => nI w
theorem pr_s : ∀ w, pr w + nI 1 = nI w
  | 0 => mi_s
  | w + 1 => nI_add w 1
def MXL (i : Nat) (S : Nat → Prop) (F : Nat → Nat) (x : Int32) : Prop := ∃ w, w ≤ 64 ∧ x = pr w ∧ ∀ t, w ≤ t ↔ ∀ e, e < i → S e → F e < t
theorem MXL_0 (S : Nat → Prop) (F : Nat → Nat) : MXL 0 S F mi := ⟨0, by omega, rfl, fun t => ⟨fun _ e he => by omega, fun _ => by omega⟩⟩
theorem MXL_no {i : Nat} {S : Nat → Prop} {F F' : Nat → Nat} {x : Int32} (hF : ∀ e, e < i → F' e = F e) (hS : ¬ S i) (h : MXL i S F x) : MXL (i + 1) S F' x := by
  obtain ⟨w, hw, e1, e2⟩ := h
  refine ⟨w, hw, e1, fun t => ?_⟩
  rw [e2 t]
  constructor
  · intro h e he hs
    by_cases e3 : e = i
    · subst e3; exact absurd hs hS
    · rw [hF e (by omega)]; exact h e (by omega) hs
  · intro h e he hs
    rw [← hF e he]; exact h e (by omega) hs
theorem MXL_set {i : Nat} {S : Nat → Prop} {F F' : Nat → Nat} {x : Int32} (hF : ∀ e, e < i → F' e = F e) (hS : S i) (h64 : F' i < 64) (hm : ∀ e, e < i → S e → F e ≤ F' i) : MXL (i + 1) S F' (nI (F' i)) := by
  refine ⟨F' i + 1, by omega, rfl, fun t => ⟨fun h e he hs => ?_, fun h => h i (by omega) hS⟩⟩
  by_cases e3 : e = i
  · subst e3; omega
  · have := hm e (by omega) hs
    rw [hF e (by omega)]; omega
theorem MXL_max {i : Nat} {S : Nat → Prop} {F F' : Nat → Nat} {x : Int32} (hF : ∀ e, e < i → F' e = F e) (hS : S i) (h64 : F' i < 64) (h : MXL i S F x) : MXL (i + 1) S F' (if x < nI (F' i) then nI (F' i) else x) := by
  obtain ⟨w, hw, e1, e2⟩ := h
  subst e1
  by_cases hlt : w ≤ F' i
  · have : pr w < nI (F' i) := by
      rcases w with _ | w
      · exact Int32.lt_of_lt_of_le mi_lt0 (nI_pos' (by omega))
      · exact nI_lt (by omega) (by omega)
    rw [if_pos this]
    refine ⟨F' i + 1, by omega, rfl, fun t => ⟨fun h e he hs => ?_, fun h => h i (by omega) hS⟩⟩
    by_cases e3 : e = i
    · subst e3; omega
    · have := (e2 (F' i)).mp hlt e (by omega) hs
      rw [hF e (by omega)]; omega
  · have : ¬ pr w < nI (F' i) := by
      rcases w with _ | w
      · omega
      · exact nI_nlt (by omega) (by omega)
    rw [if_neg this]
    refine ⟨w, hw, rfl, fun t => ⟨fun h e he hs => ?_, fun h => (e2 t).mpr (fun e he hs => ?_)⟩⟩
    · by_cases e3 : e = i
      · subst e3; omega
      · rw [hF e (by omega)]; exact (e2 t).mp h e (by omega) hs
    · rw [← hF e he]; exact h e (by omega) hs
-- ===== the earliest cycle of a trigger =====
def CE (O : OT) (L T R : Nat → Nat) (i t e : Nat) : Prop := (unO O e = unO O i → T e < t) ∧ (kdO O e ≠ 4 → RRO O i (tgO O e) = true → R e < t) ∧ (kdO O i ≠ 4 → kdO O e ≠ 4 → unO O e = unO O i → R e < t + L (unO O i))
theorem earl22_lp {O : OT} {L T R : Nat → Nat} {N i : Nat} {ki tg fi se oc mopn lat mlat op lw lt lm : Nat → Int32} (hL : LL L lat mlat) (hO : OL O N ki tg fi se oc mopn) (hi : i < N) {y : Int32} (hy : ∀ k, k < 8 → bt y k = RRO O i k) (hlw : ∀ k, k < 8 → MXL i (fun e => kdO O e ≠ 4 ∧ tgO O e = k) R (lw k)) (hlm : ∀ u, u < 3 → MXL i (fun e => kdO O e ≠ 4 ∧ unO O e = u) R (lm u)) : ∀ (d k n E : Nat), k + d = 8 → d < n → E ≤ 64 → (∀ t, E ≤ t ↔ (∀ e, e < i → unO O e = unO O i → T e < t) ∧ ∀ k', k' < k → RRO O i k' = true → ∀ e, e < i → (kdO O e ≠ 4 ∧ tgO O e = k') → R e < t) → ∃ E', E' ≤ 64 ∧ f_Pl_earliestTrigger_22 n lat op ki lw lt lm (nI i) y (nI (unO O i)) (nI E) (nI k) = some (nI E') ∧ ∀ t, E' ≤ t ↔ ∀ e, e < i → CE O L T R i t e
  | 0, k, n + 1, E, hk, hn, hE, hP => by
    have e8 : k = 8 := by omega
    subst e8
    have hu := unO_lt O i
    obtain ⟨w, hw, q1, q2⟩ := hlm (unO O i) hu
    obtain ⟨l1, l2, l3, l4⟩ := hL (unO O i) hu
    have hP' : ∀ t, E ≤ t ↔ ∀ e, e < i → (unO O e = unO O i → T e < t) ∧ (kdO O e ≠ 4 → RRO O i (tgO O e) = true → R e < t) := fun t => by
      rw [hP t]
      constructor
      · intro h e he
        refine ⟨h.1 e he, fun h4 hr => ?_⟩
        have := (OL_at hO (show e < N by omega)).2.2.2.2.2.2.2.2.2.2.2.1
        exact h.2 (tgO O e) this hr e he ⟨h4, rfl⟩
      · intro h
        refine ⟨fun e he => (h e he).1, fun k' hk' hr e he hs => ?_⟩
        exact (h e he).2 hs.1 (by rw [hs.2]; exact hr)
    rw [f_Pl_earliestTrigger_22]
    by_cases h4 : kdO O i = 4
    · refine ⟨E, hE, ?_, fun t => ?_⟩
      · simp (disch := omega) only [lI, nI_add, pk_mul, nI_leI, nI_ltI, nI_eq, ck_n, nm_n, nI_clamp, Option.bind_some, if_pos, if_neg, bk_n0, bk_n1, nI_sub, upd_s, mi_e, mi_ne, mi_ne2, mi_lt, mi_le, mi_nle, mi_nlt, mi_s, bt_shrE, bit_e, true_and, and_true, if_true, if_false, ne_eq, not_true_eq_false, not_false_eq_true, Bool.false_eq_true, Bool.true_eq_false, reduceCtorEq, isStore_n hO hi, h4, beq_self_eq_true, b2i_0]
      · rw [hP' t]
        constructor
        · intro h e he; exact ⟨(h e he).1, (h e he).2, fun h5 => absurd h4 h5⟩
        · intro h e he; exact ⟨(h e he).1, (h e he).2.1⟩
    · have key : ∀ t, (w - L (unO O i) ≤ t) ↔ ∀ e, e < i → kdO O e ≠ 4 → unO O e = unO O i → R e < t + L (unO O i) := fun t => by
        rw [show (w - L (unO O i) ≤ t) ↔ w ≤ t + L (unO O i) by omega, q2]
        constructor
        · intro h e he h1 h2; exact h e he ⟨h1, h2⟩
        · intro h e he hs; exact h e he hs.1 hs.2
      have fin : ∀ E', E' = max E (w - L (unO O i)) → ∀ t, E' ≤ t ↔ ∀ e, e < i → CE O L T R i t e := fun E' hE' t => by
        subst hE'
        rw [Nat.max_le, hP' t, key t]
        constructor
        · intro h e he; exact ⟨(h.1 e he).1, (h.1 e he).2, fun _ h5 h6 => h.2 e he h5 h6⟩
        · intro h; exact ⟨fun e he => ⟨(h e he).1, (h e he).2.1⟩, fun e he h5 h6 => (h e he).2.2 h4 h5 h6⟩
      have hps : pr w + nI 1 = nI w := pr_s w
      by_cases hwl : L (unO O i) ≤ w
      · by_cases hlt : E < w - L (unO O i)
        · refine ⟨w - L (unO O i), by omega, ?_, fin _ (by omega)⟩
          simp (disch := omega) only [lI, nI_add, pk_mul, nI_leI, nI_ltI, nI_eq, ck_n, nm_n, nI_clamp, Option.bind_some, if_pos, if_neg, bk_n0, bk_n1, nI_sub, upd_s, mi_e, mi_ne, mi_ne2, mi_lt, mi_le, mi_nle, mi_nlt, mi_s, bt_shrE, bit_e, true_and, and_true, if_true, if_false, ne_eq, not_true_eq_false, not_false_eq_true, Bool.false_eq_true, Bool.true_eq_false, reduceCtorEq, isStore_n hO hi, beq_false_of_ne h4, b2i_0, q1, l1, hps]
        · refine ⟨E, hE, ?_, fin _ (by omega)⟩
          simp (disch := omega) only [lI, nI_add, pk_mul, nI_leI, nI_ltI, nI_eq, ck_n, nm_n, nI_clamp, Option.bind_some, if_pos, if_neg, bk_n0, bk_n1, nI_sub, upd_s, mi_e, mi_ne, mi_ne2, mi_lt, mi_le, mi_nle, mi_nlt, mi_s, bt_shrE, bit_e, true_and, and_true, if_true, if_false, ne_eq, not_true_eq_false, not_false_eq_true, Bool.false_eq_true, Bool.true_eq_false, reduceCtorEq, isStore_n hO hi, beq_false_of_ne h4, b2i_0, q1, l1, hps]
      · refine ⟨E, hE, ?_, fin _ (by omega)⟩
        have hneg : nI w - nI (L (unO O i)) < nI 0 := by
          have : ∀ w, w < 4 → ∀ l, l < 5 → w < l → nI w - nI l < nI 0 := by decide +kernel
          exact this w (by omega) _ (by omega) (by omega)
        have hneg2 : (nI E < nI w - nI (L (unO O i))) = False := neg_nlt hneg (by omega)
        simp (disch := omega) only [lI, nI_add, pk_mul, nI_leI, nI_ltI, nI_eq, ck_n, nm_n, nI_clamp, Option.bind_some, if_pos, if_neg, bk_n0, bk_n1, nI_sub, upd_s, mi_e, mi_ne, mi_ne2, mi_lt, mi_le, mi_nle, mi_nlt, mi_s, bt_shrE, bit_e, true_and, and_true, if_true, if_false, ne_eq, not_true_eq_false, not_false_eq_true, Bool.false_eq_true, Bool.true_eq_false, reduceCtorEq, isStore_n hO hi, beq_false_of_ne h4, b2i_0, q1, l1, hps]
        simp only [hneg2]
        simp (disch := omega) only [lI, nI_add, pk_mul, nI_leI, nI_ltI, nI_eq, ck_n, nm_n, nI_clamp, Option.bind_some, if_pos, if_neg, bk_n0, bk_n1, nI_sub, upd_s, mi_e, mi_ne, mi_ne2, mi_lt, mi_le, mi_nle, mi_nlt, mi_s, bt_shrE, bit_e, true_and, and_true, if_true, if_false, ne_eq, not_true_eq_false, not_false_eq_true, Bool.false_eq_true, Bool.true_eq_false, reduceCtorEq]
  | d + 1, k, n + 1, E, hk, hn, hE, hP => by
    rw [f_Pl_earliestTrigger_22]
    unfold f_Pl_earliestTrigger_54
    obtain ⟨w, hw, q1, q2⟩ := hlw k (by omega)
    have hps : pr w + nI 1 = nI w := pr_s w
    rcases hr : RRO O i k with _ | _
    · simp (disch := omega) only [lI, nI_add, pk_mul, nI_leI, nI_ltI, nI_eq, ck_n, nm_n, nI_clamp, Option.bind_some, if_pos, if_neg, bk_n0, bk_n1, nI_sub, upd_s, mi_e, mi_ne, mi_ne2, mi_lt, mi_le, mi_nle, mi_nlt, mi_s, bt_shrE, bit_e, true_and, and_true, if_true, if_false, ne_eq, not_true_eq_false, not_false_eq_true, Bool.false_eq_true, Bool.true_eq_false, reduceCtorEq, hy k (by omega), hr]
      refine earl22_lp hL hO hi hy hlw hlm d (k + 1) n E (by omega) (by omega) hE (fun t => ?_)
      rw [hP t]
      constructor
      · intro h
        refine ⟨h.1, fun k' hk' hr' => ?_⟩
        by_cases e : k' = k
        · subst e; rw [hr] at hr'; cases hr'
        · exact h.2 k' (by omega) hr'
      · intro h; exact ⟨h.1, fun k' hk' => h.2 k' (by omega)⟩
    · have fin : ∀ t, (max E w ≤ t) ↔ (∀ e, e < i → unO O e = unO O i → T e < t) ∧ ∀ k', k' < k + 1 → RRO O i k' = true → ∀ e, e < i → (kdO O e ≠ 4 ∧ tgO O e = k') → R e < t := fun t => by
        rw [Nat.max_le, hP t, q2 t]
        constructor
        · intro h
          refine ⟨h.1.1, fun k' hk' hr' => ?_⟩
          by_cases e : k' = k
          · subst e; exact h.2
          · exact h.1.2 k' (by omega) hr'
        · intro h; exact ⟨⟨h.1, fun k' hk' => h.2 k' (by omega)⟩, h.2 k (by omega) hr⟩
      by_cases hlt : E < w
      · simp (disch := omega) only [lI, nI_add, pk_mul, nI_leI, nI_ltI, nI_eq, ck_n, nm_n, nI_clamp, Option.bind_some, if_pos, if_neg, bk_n0, bk_n1, nI_sub, upd_s, mi_e, mi_ne, mi_ne2, mi_lt, mi_le, mi_nle, mi_nlt, mi_s, bt_shrE, bit_e, true_and, and_true, if_true, if_false, ne_eq, not_true_eq_false, not_false_eq_true, Bool.false_eq_true, Bool.true_eq_false, reduceCtorEq, hy k (by omega), hr, q1, hps]
        refine earl22_lp hL hO hi hy hlw hlm d (k + 1) n w (by omega) (by omega) hw (fun t => ?_)
        rw [← fin t, Nat.max_eq_right (by omega)]
      · simp (disch := omega) only [lI, nI_add, pk_mul, nI_leI, nI_ltI, nI_eq, ck_n, nm_n, nI_clamp, Option.bind_some, if_pos, if_neg, bk_n0, bk_n1, nI_sub, upd_s, mi_e, mi_ne, mi_ne2, mi_lt, mi_le, mi_nle, mi_nlt, mi_s, bt_shrE, bit_e, true_and, and_true, if_true, if_false, ne_eq, not_true_eq_false, not_false_eq_true, Bool.false_eq_true, Bool.true_eq_false, reduceCtorEq, hy k (by omega), hr, q1, hps]
        refine earl22_lp hL hO hi hy hlw hlm d (k + 1) n E (by omega) (by omega) hE (fun t => ?_)
        rw [← fin t, Nat.max_eq_left (by omega)]
theorem earl_n {O : OT} {L T R : Nat → Nat} {N i : Nat} {ki tg fi se oc mopn lat mlat op lw lt lm : Nat → Int32} (hL : LL L lat mlat) (hO : OL O N ki tg fi se oc mopn) (hi : i < N) {y : Int32} (hy : ∀ k, k < 8 → bt y k = RRO O i k) (hlw : ∀ k, k < 8 → MXL i (fun e => kdO O e ≠ 4 ∧ tgO O e = k) R (lw k)) (hlm : ∀ u, u < 3 → MXL i (fun e => kdO O e ≠ 4 ∧ unO O e = u) R (lm u)) (hlt : ∀ u, u < 3 → MXL i (fun e => unO O e = u) T (lt u)) : ∃ E, E ≤ 64 ∧ f_Pl_earliestTrigger lat op ki lw lt lm (nI i) y = some (nI E) ∧ ∀ t, E ≤ t ↔ ∀ e, e < i → CE O L T R i t e := by
  have hu := unO_lt O i
  obtain ⟨w, hw, q1, q2⟩ := hlt (unO O i) hu
  have hps : pr w + nI 1 = nI w := pr_s w
  unfold f_Pl_earliestTrigger
  simp (disch := omega) only [lI, nI_add, pk_mul, nI_leI, nI_ltI, nI_eq, ck_n, nm_n, nI_clamp, Option.bind_some, if_pos, if_neg, bk_n0, bk_n1, nI_sub, upd_s, mi_e, mi_ne, mi_ne2, mi_lt, mi_le, mi_nle, mi_nlt, mi_s, bt_shrE, bit_e, true_and, and_true, if_true, if_false, ne_eq, not_true_eq_false, not_false_eq_true, Bool.false_eq_true, Bool.true_eq_false, reduceCtorEq, unit_n hO hi, q1, hps]
  refine earl22_lp hL hO hi hy hlw hlm 8 0 5000 w (by omega) (by omega) hw (fun t => ?_)
  rw [q2 t]
  constructor
  · intro h; exact ⟨h, fun k' hk' => by omega⟩
  · intro h; exact h.1
