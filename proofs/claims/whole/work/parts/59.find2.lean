def needO (O : OT) (i : Nat) : Nat := if kdO O i = 3 then 1 else 2
theorem isStart_n {B : Nat} (hB : BV B) {O : OT} {L T R : Nat → Nat} {K : KT} {U : Nat → Nat} {N i t : Nat} {ki tg fi se oc mopn lat mlat mo mlaid mopt mopr tc rc : Nat → Int32} (hL : LL L lat mlat) (hO : OL O N ki tg fi se oc mopn) (hi : i < N) (h1 : mo 1 = nI B) (hM : KM K mlaid) (hV : KV B K) (hU : UU B K U) (hT : PTR O i T R tc rc mopt mopr) (ht : t < 64) : (f_Mo_isStart mo mlat mopn mlaid mopt mopr (nI i) (nI t) = some (nI 1) ∧ CT O K U i (B - needO O i) t ∧ ∀ e, e < i → CE O L T R i t e) ∨ (f_Mo_isStart mo mlat mopn mlaid mopt mopr (nI i) (nI t) = some (nI 0) ∧ ¬ (CT O K U i (B - needO O i) t ∧ ∀ e, e < i → CE O L T R i t e)) := by
  have hB4 := hB.2
  have hB2 := hB.1
  have h20 := hO.1
  have hu := (hU t ht).1
  obtain ⟨a1, a2, a3, a4, a5, b1, b2, b3, b4, b5, k1, k2, k3, k4, _⟩ := OL_at hO hi
  have f1 := free_n hB h1 hM hV hU ht
  have f2 := mregsR_n hB hO hi h1 hM hV ht
  have c8 := cnt_le (fun k => RRO O i k || anyM (fun q => q.1 == k) (LM K t) 4) 8
  have s25 : U t ≤ B - needO O i → (f_Mo_isStart_25 mo mlat mopn mlaid mopt mopr (nI i) (nI t) = some (nI 1) ∧ CT O K U i (B - needO O i) t ∧ ∀ e, e < i → CE O L T R i t e) ∨ (f_Mo_isStart_25 mo mlat mopn mlaid mopt mopr (nI i) (nI t) = some (nI 0) ∧ ¬ (CT O K U i (B - needO O i) t ∧ ∀ e, e < i → CE O L T R i t e)) := fun hr => by
    unfold f_Mo_isStart_25
    rw [f2]
    by_cases h2 : cnt (fun k => RRO O i k || anyM (fun q => q.1 == k) (LM K t) 4) 8 ≤ 2
    · simp (disch := omega) only [lI, nI_add, pk_mul, nI_leI, nI_ltI, nI_eq, ck_n, nm_n, nI_clamp, Option.bind_some, if_pos, if_neg, bk_n0, bk_n1, nI_sub, upd_s, mi_e, mi_ne, mi_ne2, mi_lt, mi_le, mi_nle, mi_nlt, mi_s, bt_shrE, bit_e, true_and, and_true, if_true, if_false, ne_eq, not_true_eq_false, not_false_eq_true, Bool.false_eq_true, Bool.true_eq_false, reduceCtorEq]
      rcases start39_lp (mo := mo) (mlaid := mlaid) hL hO hi ht hT i 0 5000 (by omega) (by omega) with ⟨q1, q2⟩ | ⟨q1, q2⟩
      · exact Or.inl ⟨q1, ⟨hr, h2⟩, fun e he => q2 e (by omega) he⟩
      · exact Or.inr ⟨q1, fun h => q2 (fun e _ he => h.2 e he)⟩
    · simp (disch := omega) only [lI, nI_add, pk_mul, nI_leI, nI_ltI, nI_eq, ck_n, nm_n, nI_clamp, Option.bind_some, if_pos, if_neg, bk_n0, bk_n1, nI_sub, upd_s, mi_e, mi_ne, mi_ne2, mi_lt, mi_le, mi_nle, mi_nlt, mi_s, bt_shrE, bit_e, true_and, and_true, if_true, if_false, ne_eq, not_true_eq_false, not_false_eq_true, Bool.false_eq_true, Bool.true_eq_false, reduceCtorEq]
      exact Or.inr (fun h => h2 h.1.2)
  unfold f_Mo_isStart
  rw [f1]
  by_cases h3 : kdO O i = 3
  · have hn : needO O i = 1 := if_pos h3
    rw [hn] at s25 ⊢
    by_cases hr : U t ≤ B - 1
    · simp (disch := omega) only [lI, nI_add, pk_mul, nI_leI, nI_ltI, nI_eq, ck_n, nm_n, nI_clamp, Option.bind_some, if_pos, if_neg, bk_n0, bk_n1, nI_sub, upd_s, mi_e, mi_ne, mi_ne2, mi_lt, mi_le, mi_nle, mi_nlt, mi_s, bt_shrE, bit_e, true_and, and_true, if_true, if_false, ne_eq, not_true_eq_false, not_false_eq_true, Bool.false_eq_true, Bool.true_eq_false, reduceCtorEq, b1, h3]; exact s25 hr
    · simp (disch := omega) only [lI, nI_add, pk_mul, nI_leI, nI_ltI, nI_eq, ck_n, nm_n, nI_clamp, Option.bind_some, if_pos, if_neg, bk_n0, bk_n1, nI_sub, upd_s, mi_e, mi_ne, mi_ne2, mi_lt, mi_le, mi_nle, mi_nlt, mi_s, bt_shrE, bit_e, true_and, and_true, if_true, if_false, ne_eq, not_true_eq_false, not_false_eq_true, Bool.false_eq_true, Bool.true_eq_false, reduceCtorEq, b1, h3]; exact Or.inr (fun h => hr h.1.1)
  · have hn : needO O i = 2 := if_neg h3
    rw [hn] at s25 ⊢
    by_cases hr : U t ≤ B - 2
    · simp (disch := omega) only [lI, nI_add, pk_mul, nI_leI, nI_ltI, nI_eq, ck_n, nm_n, nI_clamp, Option.bind_some, if_pos, if_neg, bk_n0, bk_n1, nI_sub, upd_s, mi_e, mi_ne, mi_ne2, mi_lt, mi_le, mi_nle, mi_nlt, mi_s, bt_shrE, bit_e, true_and, and_true, if_true, if_false, ne_eq, not_true_eq_false, not_false_eq_true, Bool.false_eq_true, Bool.true_eq_false, reduceCtorEq, b1, h3]; exact s25 hr
    · simp (disch := omega) only [lI, nI_add, pk_mul, nI_leI, nI_ltI, nI_eq, ck_n, nm_n, nI_clamp, Option.bind_some, if_pos, if_neg, bk_n0, bk_n1, nI_sub, upd_s, mi_e, mi_ne, mi_ne2, mi_lt, mi_le, mi_nle, mi_nlt, mi_s, bt_shrE, bit_e, true_and, and_true, if_true, if_false, ne_eq, not_true_eq_false, not_false_eq_true, Bool.false_eq_true, Bool.true_eq_false, reduceCtorEq, b1, h3]; exact Or.inr (fun h => hr h.1.1)
theorem lay35_lp {B : Nat} (hB : BV B) {O : OT} {L T R : Nat → Nat} {K : KT} {U : Nat → Nat} {N i : Nat} {ki tg fi se oc mopn lat mlat mo mlaid mopt mopr tc rc : Nat → Int32} (hL : LL L lat mlat) (hO : OL O N ki tg fi se oc mopn) (hi : i < N) (h1 : mo 1 = nI B) (hM : KM K mlaid) (hV : KV B K) (hU : UU B K U) (hT : PTR O i T R tc rc mopt mopr) (v2 v3 v4 : Int32) : ∀ (d t n : Nat), t + d = 64 → d < n → ∃ t1, t ≤ t1 ∧ t1 ≤ 64 ∧ (∀ t', t ≤ t' → t' < t1 → ¬ (CT O K U i (B - needO O i) t' ∧ ∀ e, e < i → CE O L T R i t' e)) ∧ (t1 < 64 → CT O K U i (B - needO O i) t1 ∧ ∀ e, e < i → CE O L T R i t1 e) ∧ f_Mo_layOperation_35 n mo mlat mopn mlaid mopt mopr (nI i) v2 v3 v4 (nI t) = f_Mo_layOperation_58 mo mlat mopn mlaid mopt mopr (nI i) v2 v3 v4 (nI t1)
  | 0, t, n + 1, ht, hn => by
    refine ⟨t, Nat.le_refl _, by omega, fun t' h1 h2 => by omega, fun h => by omega, ?_⟩
    rw [f_Mo_layOperation_35]; simp (disch := omega) only [lI, nI_add, pk_mul, nI_leI, nI_ltI, nI_eq, ck_n, nm_n, nI_clamp, Option.bind_some, if_pos, if_neg, bk_n0, bk_n1, nI_sub, upd_s, mi_e, mi_ne, mi_ne2, mi_lt, mi_le, mi_nle, mi_nlt, mi_s, bt_shrE, bit_e, true_and, and_true, if_true, if_false, ne_eq, not_true_eq_false, not_false_eq_true, Bool.false_eq_true, Bool.true_eq_false, reduceCtorEq]
  | d + 1, t, n + 1, ht, hn => by
    rw [f_Mo_layOperation_35]
    rcases isStart_n hB hL hO hi h1 hM hV hU hT (show t < 64 by omega) with ⟨q1, q2⟩ | ⟨q1, q2⟩
    · refine ⟨t, Nat.le_refl _, by omega, fun t' h1 h2 => by omega, fun _ => q2, ?_⟩
      simp (disch := omega) only [lI, nI_add, pk_mul, nI_leI, nI_ltI, nI_eq, ck_n, nm_n, nI_clamp, Option.bind_some, if_pos, if_neg, bk_n0, bk_n1, nI_sub, upd_s, mi_e, mi_ne, mi_ne2, mi_lt, mi_le, mi_nle, mi_nlt, mi_s, bt_shrE, bit_e, true_and, and_true, if_true, if_false, ne_eq, not_true_eq_false, not_false_eq_true, Bool.false_eq_true, Bool.true_eq_false, reduceCtorEq, q1]
    · obtain ⟨t1, p1, p2, p3, p4, p5⟩ := lay35_lp hB hL hO hi h1 hM hV hU hT v2 v3 v4 d (t + 1) n (by omega) (by omega)
      refine ⟨t1, by omega, p2, fun t' h1 h2 => ?_, p4, ?_⟩
      · by_cases e : t' = t
        · subst e; exact q2
        · exact p3 t' (by omega) h2
      · simp (disch := omega) only [lI, nI_add, pk_mul, nI_leI, nI_ltI, nI_eq, ck_n, nm_n, nI_clamp, Option.bind_some, if_pos, if_neg, bk_n0, bk_n1, nI_sub, upd_s, mi_e, mi_ne, mi_ne2, mi_lt, mi_le, mi_nle, mi_nlt, mi_s, bt_shrE, bit_e, true_and, and_true, if_true, if_false, ne_eq, not_true_eq_false, not_false_eq_true, Bool.false_eq_true, Bool.true_eq_false, reduceCtorEq, q1]; exact p5
theorem trigC_n {B : Nat} (hB : BV B) {O : OT} {L T R : Nat → Nat} {K : KT} {U : Nat → Nat} {N i : Nat} {ki tg fi se oc mopn lat mlat op r_co bs rr lw lt lm : Nat → Int32} (hL : LL L lat mlat) (hO : OL O N ki tg fi se oc mopn) (hi : i < N) (h0 : r_co 0 = nI B) (hU : UU B K U) (hbs : ∀ c, c < 64 → bs c = nI (U c)) (hrr : RRD K rr) (hlw : ∀ k, k < 8 → MXL i (fun e => kdO O e ≠ 4 ∧ tgO O e = k) R (lw k)) (hlm : ∀ u, u < 3 → MXL i (fun e => kdO O e ≠ 4 ∧ unO O e = u) R (lm u)) (hlt : ∀ u, u < 3 → MXL i (fun e => unO O e = u) T (lt u)) : (f_Pl_triggerCycle lat r_co op ki fi se bs rr lw lt lm (nI i) = some mi ∧ ∀ t, t < 64 → ¬ (CT O K U i (B - needO O i) t ∧ ∀ e, e < i → CE O L T R i t e)) ∨ ∃ t1, t1 < 64 ∧ (CT O K U i (B - needO O i) t1 ∧ ∀ e, e < i → CE O L T R i t1 e) ∧ (∀ t, t < t1 → ¬ (CT O K U i (B - needO O i) t ∧ ∀ e, e < i → CE O L T R i t e)) ∧ f_Pl_triggerCycle lat r_co op ki fi se bs rr lw lt lm (nI i) = some (nI t1) := by
  have hB4 := hB.2
  have hB2 := hB.1
  obtain ⟨y, y1, y2, y3⟩ := regsR_n (op := op) hO hi
  obtain ⟨E, hE, e1, e2⟩ := earl_n (op := op) (lt := lt) hL hO hi y2 hlw hlm hlt
  have key : f_Pl_triggerCycle lat r_co op ki fi se bs rr lw lt lm (nI i) = f_Pl_triggerCycle_42 5000 lat r_co op ki fi se bs rr lw lt lm y (nI (B - needO O i)) (nI E) := by
    unfold f_Pl_triggerCycle f_Pl_triggerCycle_34 needO
    rw [y1, isLoad_n hO hi]
    by_cases h3 : kdO O i = 3
    · rw [h3]; simp (disch := omega) only [lI, nI_add, pk_mul, nI_leI, nI_ltI, nI_eq, ck_n, nm_n, nI_clamp, Option.bind_some, if_pos, if_neg, bk_n0, bk_n1, nI_sub, upd_s, mi_e, mi_ne, mi_ne2, mi_lt, mi_le, mi_nle, mi_nlt, mi_s, bt_shrE, bit_e, true_and, and_true, if_true, if_false, ne_eq, not_true_eq_false, not_false_eq_true, Bool.false_eq_true, Bool.true_eq_false, reduceCtorEq, h0, beq_self_eq_true, b2i_0, e1]
    · rw [beq_false_of_ne h3]; simp (disch := omega) only [lI, nI_add, pk_mul, nI_leI, nI_ltI, nI_eq, ck_n, nm_n, nI_clamp, Option.bind_some, if_pos, if_neg, bk_n0, bk_n1, nI_sub, upd_s, mi_e, mi_ne, mi_ne2, mi_lt, mi_le, mi_nle, mi_nlt, mi_s, bt_shrE, bit_e, true_and, and_true, if_true, if_false, ne_eq, not_true_eq_false, not_false_eq_true, Bool.false_eq_true, Bool.true_eq_false, reduceCtorEq, h0, b2i_0, e1, h3]
  rw [key]
  have low : ∀ t, t < E → ¬ (CT O K U i (B - needO O i) t ∧ ∀ e, e < i → CE O L T R i t e) := fun t ht h => by
    have := (e2 t).mpr h.2; omega
  rcases tc_lp hB (lat := lat) (r_co := r_co) (op := op) (ki := ki) (fi := fi) (se := se) (lw := lw) (lt := lt) (lm := lm) (room := B - needO O i) (by omega) y2 y3 hU hbs hrr (64 - E) E 5000 (by omega) (by omega) with ⟨q1, q2⟩ | ⟨t1, q1, q2, q3, q4, q5⟩
  · refine Or.inl ⟨q1, fun t ht => ?_⟩
    by_cases hlt2 : t < E
    · exact low t hlt2
    · exact fun h => q2 t (by omega) ht h.1
  · refine Or.inr ⟨t1, q2, ⟨q3, (e2 t1).mp q1⟩, fun t ht => ?_, q5⟩
    by_cases hlt2 : t < E
    · exact low t hlt2
    · exact fun h => q4 t (by omega) ht h.1
-- ===== the cycle of a result, found by both =====
def HRD (O : OT) (i : Nat) (R : Nat → Nat) (hr : Nat → Int32) : Prop := ∀ c, c < 64 → (hr c = nI 1 ∧ ∃ e, e < i ∧ kdO O e ≠ 4 ∧ R e = c) ∨ (hr c = nI 0 ∧ ∀ e, e < i → kdO O e ≠ 4 → R e ≠ c)
def C2 (O : OT) (T R : Nat → Nat) (i r e : Nat) : Prop := (kdO O e ≠ 4 → R e ≠ r ∧ (tgO O e = tgO O i → R e < r)) ∧ (RRO O e (tgO O i) = true → T e ≤ r)
theorem end25_lp {O : OT} {T R : Nat → Nat} {N i r : Nat} {ki tg fi se oc mopn mo mlaid mopt mopr tc rc : Nat → Int32} (hO : OL O N ki tg fi se oc mopn) (hi : i < N) (hr : r < 64) (hT : PTR O i T R tc rc mopt mopr) : ∀ (d e n : Nat), e + d = i → d < n → (f_Mo_isEnd_25 n mo mopn mlaid mopt mopr (nI i) (nI r) (nI (tgO O i)) (nI e) = some (nI 1) ∧ ∀ e', e ≤ e' → e' < i → C2 O T R i r e') ∨ (f_Mo_isEnd_25 n mo mopn mlaid mopt mopr (nI i) (nI r) (nI (tgO O i)) (nI e) = some (nI 0) ∧ ¬ ∀ e', e ≤ e' → e' < i → C2 O T R i r e')
  | 0, e, n + 1, he, hn => by
    have h20 := hO.1
    left
    refine ⟨?_, fun e' h1 h2 => by omega⟩
    rw [f_Mo_isEnd_25]; simp (disch := omega) only [lI, nI_add, pk_mul, nI_leI, nI_ltI, nI_eq, ck_n, nm_n, nI_clamp, Option.bind_some, if_pos, if_neg, bk_n0, bk_n1, nI_sub, upd_s, mi_e, mi_ne, mi_ne2, mi_lt, mi_le, mi_nle, mi_nlt, mi_s, bt_shrE, bit_e, true_and, and_true, if_true, if_false, ne_eq, not_true_eq_false, not_false_eq_true, Bool.false_eq_true, Bool.true_eq_false, reduceCtorEq]
  | d + 1, e, n + 1, he, hn => by
    have h20 := hO.1
    have heN : e < N := by omega
    obtain ⟨a1, a2, a3, a4, a5, b1, b2, b3, b4, b5, k1, k2, k3, k4, _⟩ := OL_at hO heN
    have k2i := (OL_at hO hi).2.2.2.2.2.2.2.2.2.2.2.1
    obtain ⟨p1, p2, p3, p4⟩ := hT e (by omega)
    have we := writes_n (mo := mo) hO heN
    have rr := readsR_n (mo := mo) hO heN k2i
    rw [f_Mo_isEnd_25]
    have go : C2 O T R i r e → (f_Mo_isEnd_25 n mo mopn mlaid mopt mopr (nI i) (nI r) (nI (tgO O i)) (nI (e + 1)) = some (nI 1) ∧ ∀ e', e ≤ e' → e' < i → C2 O T R i r e') ∨ (f_Mo_isEnd_25 n mo mopn mlaid mopt mopr (nI i) (nI r) (nI (tgO O i)) (nI (e + 1)) = some (nI 0) ∧ ¬ ∀ e', e ≤ e' → e' < i → C2 O T R i r e') := fun hc => by
      rcases end25_lp (mo := mo) (mlaid := mlaid) hO hi hr hT d (e + 1) n (by omega) (by omega) with ⟨q1, q2⟩ | ⟨q1, q2⟩
      · refine Or.inl ⟨q1, fun e' h1 h2 => ?_⟩
        by_cases e3 : e' = e
        · subst e3; exact hc
        · exact q2 e' (by omega) h2
      · exact Or.inr ⟨q1, fun h => q2 (fun e' h1 h2 => h e' (by omega) h2)⟩
    have no : ¬ C2 O T R i r e → ¬ ∀ e', e ≤ e' → e' < i → C2 O T R i r e' := fun hc h => hc (h e (by omega) (by omega))
    have e79 : (kdO O e ≠ 4 → R e ≠ r ∧ (tgO O e = tgO O i → R e < r)) → (f_Mo_isEnd_79 (f_Mo_isEnd_25 n) mo mopn mlaid mopt mopr (nI i) (nI r) (nI (tgO O i)) (nI e) = some (nI 1) ∧ ∀ e', e ≤ e' → e' < i → C2 O T R i r e') ∨ (f_Mo_isEnd_79 (f_Mo_isEnd_25 n) mo mopn mlaid mopt mopr (nI i) (nI r) (nI (tgO O i)) (nI e) = some (nI 0) ∧ ¬ ∀ e', e ≤ e' → e' < i → C2 O T R i r e') := fun hc1 => by
      unfold f_Mo_isEnd_79 f_Mo_isEnd_102
      rw [rr]
      rcases hz : RRO O e (tgO O i) with _ | _
      · have g := go ⟨hc1, fun h => by rw [hz] at h; cases h⟩
        simp (disch := omega) only [lI, nI_add, pk_mul, nI_leI, nI_ltI, nI_eq, ck_n, nm_n, nI_clamp, Option.bind_some, if_pos, if_neg, bk_n0, bk_n1, nI_sub, upd_s, mi_e, mi_ne, mi_ne2, mi_lt, mi_le, mi_nle, mi_nlt, mi_s, bt_shrE, bit_e, true_and, and_true, if_true, if_false, ne_eq, not_true_eq_false, not_false_eq_true, Bool.false_eq_true, Bool.true_eq_false, reduceCtorEq, b2i_0]; exact g
      · by_cases ht : T e ≤ r
        · have g := go ⟨hc1, fun _ => ht⟩
          simp (disch := omega) only [lI, nI_add, pk_mul, nI_leI, nI_ltI, nI_eq, ck_n, nm_n, nI_clamp, Option.bind_some, if_pos, if_neg, bk_n0, bk_n1, nI_sub, upd_s, mi_e, mi_ne, mi_ne2, mi_lt, mi_le, mi_nle, mi_nlt, mi_s, bt_shrE, bit_e, true_and, and_true, if_true, if_false, ne_eq, not_true_eq_false, not_false_eq_true, Bool.false_eq_true, Bool.true_eq_false, reduceCtorEq, b2i_0, p3]; exact g
        · have g := no (fun hc => ht (hc.2 hz))
          simp (disch := omega) only [lI, nI_add, pk_mul, nI_leI, nI_ltI, nI_eq, ck_n, nm_n, nI_clamp, Option.bind_some, if_pos, if_neg, bk_n0, bk_n1, nI_sub, upd_s, mi_e, mi_ne, mi_ne2, mi_lt, mi_le, mi_nle, mi_nlt, mi_s, bt_shrE, bit_e, true_and, and_true, if_true, if_false, ne_eq, not_true_eq_false, not_false_eq_true, Bool.false_eq_true, Bool.true_eq_false, reduceCtorEq, b2i_0, p3]; exact Or.inr g
    by_cases h4 : kdO O e = 4
    · have we' : f_Mo_writes mo mopn (nI e) = some (nI 0) := by rw [we, h4]; rfl
      simp (disch := omega) only [lI, nI_add, pk_mul, nI_leI, nI_ltI, nI_eq, ck_n, nm_n, nI_clamp, Option.bind_some, if_pos, if_neg, bk_n0, bk_n1, nI_sub, upd_s, mi_e, mi_ne, mi_ne2, mi_lt, mi_le, mi_nle, mi_nlt, mi_s, bt_shrE, bit_e, true_and, and_true, if_true, if_false, ne_eq, not_true_eq_false, not_false_eq_true, Bool.false_eq_true, Bool.true_eq_false, reduceCtorEq, we']
      exact e79 (fun h => absurd h4 h)
    · have we' : f_Mo_writes mo mopn (nI e) = some (nI 1) := by rw [we, beq_false_of_ne h4]; rfl
      obtain ⟨r1, r2, r3⟩ := p4 h4
      by_cases h5 : R e = r
      · have g := no (fun hc => (hc.1 h4).1 h5)
        simp (disch := omega) only [lI, nI_add, pk_mul, nI_leI, nI_ltI, nI_eq, ck_n, nm_n, nI_clamp, Option.bind_some, if_pos, if_neg, bk_n0, bk_n1, nI_sub, upd_s, mi_e, mi_ne, mi_ne2, mi_lt, mi_le, mi_nle, mi_nlt, mi_s, bt_shrE, bit_e, true_and, and_true, if_true, if_false, ne_eq, not_true_eq_false, not_false_eq_true, Bool.false_eq_true, Bool.true_eq_false, reduceCtorEq, we', r3]; exact Or.inr g
      · by_cases h6 : tgO O e = tgO O i
        · by_cases h7 : R e < r
          · simp (disch := omega) only [lI, nI_add, pk_mul, nI_leI, nI_ltI, nI_eq, ck_n, nm_n, nI_clamp, Option.bind_some, if_pos, if_neg, bk_n0, bk_n1, nI_sub, upd_s, mi_e, mi_ne, mi_ne2, mi_lt, mi_le, mi_nle, mi_nlt, mi_s, bt_shrE, bit_e, true_and, and_true, if_true, if_false, ne_eq, not_true_eq_false, not_false_eq_true, Bool.false_eq_true, Bool.true_eq_false, reduceCtorEq, we', r3, b2]
            exact e79 (fun _ => ⟨h5, fun _ => h7⟩)
          · have g := no (fun hc => h7 ((hc.1 h4).2 h6))
            simp (disch := omega) only [lI, nI_add, pk_mul, nI_leI, nI_ltI, nI_eq, ck_n, nm_n, nI_clamp, Option.bind_some, if_pos, if_neg, bk_n0, bk_n1, nI_sub, upd_s, mi_e, mi_ne, mi_ne2, mi_lt, mi_le, mi_nle, mi_nlt, mi_s, bt_shrE, bit_e, true_and, and_true, if_true, if_false, ne_eq, not_true_eq_false, not_false_eq_true, Bool.false_eq_true, Bool.true_eq_false, reduceCtorEq, we', r3, b2]; exact Or.inr g
        · simp (disch := omega) only [lI, nI_add, pk_mul, nI_leI, nI_ltI, nI_eq, ck_n, nm_n, nI_clamp, Option.bind_some, if_pos, if_neg, bk_n0, bk_n1, nI_sub, upd_s, mi_e, mi_ne, mi_ne2, mi_lt, mi_le, mi_nle, mi_nlt, mi_s, bt_shrE, bit_e, true_and, and_true, if_true, if_false, ne_eq, not_true_eq_false, not_false_eq_true, Bool.false_eq_true, Bool.true_eq_false, reduceCtorEq, we', r3, b2]
          exact e79 (fun _ => ⟨h5, fun h => absurd h h6⟩)
