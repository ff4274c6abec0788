-- ===== the cycle of a trigger, found by both =====
def CT (O : OT) (K : KT) (U : Nat → Nat) (i room t : Nat) : Prop := U t ≤ room ∧ cnt (fun k => RRO O i k || anyM (fun q => q.1 == k) (LM K t) 4) 8 ≤ 2
def RRD (K : KT) (rr : Nat → Int32) : Prop := ∀ c, c < 64 → (∀ k, k < 8 → bt (rr c) k = anyM (fun q => q.1 == k) (LM K c) 4) ∧ ∀ k, 8 ≤ k → k < 32 → bt (rr c) k = false
theorem tc_lp {B : Nat} (hB : BV B) {O : OT} {K : KT} {U : Nat → Nat} {i room : Nat} {lat r_co op ki fi se bs rr lw lt lm : Nat → Int32} {y : Int32} (hroom : room ≤ 4) (hy1 : ∀ k, k < 8 → bt y k = RRO O i k) (hy2 : ∀ k, 8 ≤ k → k < 32 → bt y k = false) (hU : UU B K U) (hbs : ∀ c, c < 64 → bs c = nI (U c)) (hrr : RRD K rr) : ∀ (d t n : Nat), t + d = 64 → d < n → (f_Pl_triggerCycle_42 n lat r_co op ki fi se bs rr lw lt lm y (nI room) (nI t) = some mi ∧ ∀ t', t ≤ t' → t' < 64 → ¬ CT O K U i room t') ∨ ∃ t1, t ≤ t1 ∧ t1 < 64 ∧ CT O K U i room t1 ∧ (∀ t', t ≤ t' → t' < t1 → ¬ CT O K U i room t') ∧ f_Pl_triggerCycle_42 n lat r_co op ki fi se bs rr lw lt lm y (nI room) (nI t) = some (nI t1)
  | 0, t, n + 1, ht, hn => by
    left
    refine ⟨?_, fun t' h1 h2 => by omega⟩
    rw [f_Pl_triggerCycle_42]; simp (disch := omega) only [lI, nI_add, pk_mul, nI_leI, nI_ltI, nI_eq, ck_n, nm_n, nI_clamp, Option.bind_some, if_pos, if_neg, bk_n0, bk_n1, nI_sub, upd_s, mi_e, mi_ne, mi_ne2, mi_lt, mi_le, mi_nle, mi_nlt, mi_s, bt_shrE, bit_e, true_and, and_true, if_true, if_false, ne_eq, not_true_eq_false, not_false_eq_true, Bool.false_eq_true, Bool.true_eq_false, reduceCtorEq]
  | d + 1, t, n + 1, ht, hn => by
    have hB4 := hB.2
    have hu := (hU t (by omega)).1
    rw [f_Pl_triggerCycle_42]
    unfold f_Pl_triggerCycle_79
    have e2 : f_In_bitCount (rr t ||| y) = some (nI (cnt (fun k => RRO O i k || anyM (fun q => q.1 == k) (LM K t) 4) 8)) := bitCount_of (fun k hk => by
      rw [bt_or, (hrr t (by omega)).1 k hk, hy1 k hk, Bool.or_comm]) (fun k h8 hk => by
      rw [bt_or, (hrr t (by omega)).2 k h8 hk, hy2 k h8 hk]; rfl)
    have c8 := cnt_le (fun k => RRO O i k || anyM (fun q => q.1 == k) (LM K t) 4) 8
    by_cases hct : CT O K U i room t
    · right
      refine ⟨t, Nat.le_refl _, by omega, hct, fun t' h1 h2 => by omega, ?_⟩
      obtain ⟨c1, c2⟩ := hct
      simp (disch := omega) only [lI, nI_add, pk_mul, nI_leI, nI_ltI, nI_eq, ck_n, nm_n, nI_clamp, Option.bind_some, if_pos, if_neg, bk_n0, bk_n1, nI_sub, upd_s, mi_e, mi_ne, mi_ne2, mi_lt, mi_le, mi_nle, mi_nlt, mi_s, bt_shrE, bit_e, true_and, and_true, if_true, if_false, ne_eq, not_true_eq_false, not_false_eq_true, Bool.false_eq_true, Bool.true_eq_false, reduceCtorEq, hbs t (by omega), e2]
    · have go : (f_Pl_triggerCycle_42 n lat r_co op ki fi se bs rr lw lt lm y (nI room) (nI (t + 1)) = some mi ∧ ∀ t', t ≤ t' → t' < 64 → ¬ CT O K U i room t') ∨ ∃ t1, t ≤ t1 ∧ t1 < 64 ∧ CT O K U i room t1 ∧ (∀ t', t ≤ t' → t' < t1 → ¬ CT O K U i room t') ∧ f_Pl_triggerCycle_42 n lat r_co op ki fi se bs rr lw lt lm y (nI room) (nI (t + 1)) = some (nI t1) := by
        rcases tc_lp hB (lat := lat) (r_co := r_co) (op := op) (ki := ki) (fi := fi) (se := se) (lw := lw) (lt := lt) (lm := lm) hroom hy1 hy2 hU hbs hrr d (t + 1) n (by omega) (by omega) with ⟨q1, q2⟩ | ⟨t1, q1, q2, q3, q4, q5⟩
        · refine Or.inl ⟨q1, fun t' h1 h2 => ?_⟩
          by_cases e : t' = t
          · subst e; exact hct
          · exact q2 t' (by omega) h2
        · refine Or.inr ⟨t1, by omega, q2, q3, fun t' h1 h2 => ?_, q5⟩
          by_cases e : t' = t
          · subst e; exact hct
          · exact q4 t' (by omega) h2
      by_cases h1 : U t ≤ room
      · have h2 : ¬ cnt (fun k => RRO O i k || anyM (fun q => q.1 == k) (LM K t) 4) 8 ≤ 2 := fun h => hct ⟨h1, h⟩
        simp (disch := omega) only [lI, nI_add, pk_mul, nI_leI, nI_ltI, nI_eq, ck_n, nm_n, nI_clamp, Option.bind_some, if_pos, if_neg, bk_n0, bk_n1, nI_sub, upd_s, mi_e, mi_ne, mi_ne2, mi_lt, mi_le, mi_nle, mi_nlt, mi_s, bt_shrE, bit_e, true_and, and_true, if_true, if_false, ne_eq, not_true_eq_false, not_false_eq_true, Bool.false_eq_true, Bool.true_eq_false, reduceCtorEq, hbs t (by omega), e2]
        exact go
      · simp (disch := omega) only [lI, nI_add, pk_mul, nI_leI, nI_ltI, nI_eq, ck_n, nm_n, nI_clamp, Option.bind_some, if_pos, if_neg, bk_n0, bk_n1, nI_sub, upd_s, mi_e, mi_ne, mi_ne2, mi_lt, mi_le, mi_nle, mi_nlt, mi_s, bt_shrE, bit_e, true_and, and_true, if_true, if_false, ne_eq, not_true_eq_false, not_false_eq_true, Bool.false_eq_true, Bool.true_eq_false, reduceCtorEq, hbs t (by omega)]
        exact go
def PTR (O : OT) (i : Nat) (T R : Nat → Nat) (tc rc mopt mopr : Nat → Int32) : Prop := ∀ e, e < i → T e < 64 ∧ tc e = nI (T e) ∧ mopt e = nI (T e) ∧ (kdO O e ≠ 4 → R e < 64 ∧ rc e = nI (R e) ∧ mopr e = nI (R e))
theorem start39_lp {O : OT} {L T R : Nat → Nat} {N i t : Nat} {ki tg fi se oc mopn lat mlat mo mlaid mopt mopr tc rc : Nat → Int32} (hL : LL L lat mlat) (hO : OL O N ki tg fi se oc mopn) (hi : i < N) (ht : t < 64) (hT : PTR O i T R tc rc mopt mopr) : ∀ (d e n : Nat), e + d = i → d < n → (f_Mo_isStart_39 n mo mlat mopn mlaid mopt mopr (nI i) (nI t) (nI e) = some (nI 1) ∧ ∀ e', e ≤ e' → e' < i → CE O L T R i t e') ∨ (f_Mo_isStart_39 n mo mlat mopn mlaid mopt mopr (nI i) (nI t) (nI e) = some (nI 0) ∧ ¬ ∀ e', e ≤ e' → e' < i → CE O L T R i t e')
  | 0, e, n + 1, he, hn => by
    have h20 := hO.1
    left
    refine ⟨?_, fun e' h1 h2 => by omega⟩
    rw [f_Mo_isStart_39]; simp (disch := omega) only [lI, nI_add, pk_mul, nI_leI, nI_ltI, nI_eq, ck_n, nm_n, nI_clamp, Option.bind_some, if_pos, if_neg, bk_n0, bk_n1, nI_sub, upd_s, mi_e, mi_ne, mi_ne2, mi_lt, mi_le, mi_nle, mi_nlt, mi_s, bt_shrE, bit_e, true_and, and_true, if_true, if_false, ne_eq, not_true_eq_false, not_false_eq_true, Bool.false_eq_true, Bool.true_eq_false, reduceCtorEq]
  | d + 1, e, n + 1, he, hn => by
    have h20 := hO.1
    have hu := unO_lt O i
    have hue := unO_lt O e
    obtain ⟨l1, l2, l3, l4⟩ := hL (unO O i) hu
    have heN : e < N := by omega
    obtain ⟨a1, a2, a3, a4, a5, b1, b2, b3, b4, b5, k1, k2, k3, k4, _⟩ := OL_at hO heN
    obtain ⟨p1, p2, p3, p4⟩ := hT e (by omega)
    rw [f_Mo_isStart_39]
    unfold f_Mo_isStart_82 f_Mo_isStart_107 f_Mo_isStart_159
    have wi := writes_n (mo := mo) hO hi
    have we := writes_n (mo := mo) hO heN
    have ui := munit_n (mo := mo) hO hi
    have ue := munit_n (mo := mo) hO heN
    have rr := readsR_n (mo := mo) hO hi k2
    have go : CE O L T R i t e → (f_Mo_isStart_39 n mo mlat mopn mlaid mopt mopr (nI i) (nI t) (nI (e + 1)) = some (nI 1) ∧ ∀ e', e ≤ e' → e' < i → CE O L T R i t e') ∨ (f_Mo_isStart_39 n mo mlat mopn mlaid mopt mopr (nI i) (nI t) (nI (e + 1)) = some (nI 0) ∧ ¬ ∀ e', e ≤ e' → e' < i → CE O L T R i t e') := fun hc => by
      rcases start39_lp (mo := mo) (mlaid := mlaid) hL hO hi ht hT d (e + 1) n (by omega) (by omega) with ⟨q1, q2⟩ | ⟨q1, q2⟩
      · refine Or.inl ⟨q1, fun e' h1 h2 => ?_⟩
        by_cases e3 : e' = e
        · subst e3; exact hc
        · exact q2 e' (by omega) h2
      · exact Or.inr ⟨q1, fun h => q2 (fun e' h1 h2 => h e' (by omega) h2)⟩
    have no : ¬ CE O L T R i t e → ¬ ∀ e', e ≤ e' → e' < i → CE O L T R i t e' := fun hc h => hc (h e (by omega) (by omega))
    by_cases h4 : kdO O e = 4
    · have we' : f_Mo_writes mo mopn (nI e) = some (nI 0) := by rw [we, h4]; rfl
      by_cases hun : unO O e = unO O i
      · rw [hun] at ue
        by_cases ht1 : T e < t
        · have hc : CE O L T R i t e := ⟨fun _ => ht1, fun h => absurd h4 h, fun _ h => absurd h4 h⟩
          have g := go hc
          rcases wz : (!(kdO O i == 4)) with _ | _
          · rw [wz] at wi
            simp (disch := omega) only [lI, nI_add, pk_mul, nI_leI, nI_ltI, nI_eq, ck_n, nm_n, nI_clamp, Option.bind_some, if_pos, if_neg, bk_n0, bk_n1, nI_sub, upd_s, mi_e, mi_ne, mi_ne2, mi_lt, mi_le, mi_nle, mi_nlt, mi_s, bt_shrE, bit_e, true_and, and_true, if_true, if_false, ne_eq, not_true_eq_false, not_false_eq_true, Bool.false_eq_true, Bool.true_eq_false, reduceCtorEq, we', ue, ui, p3, wi, b2i_0]; exact g
          · rw [wz] at wi
            simp (disch := omega) only [lI, nI_add, pk_mul, nI_leI, nI_ltI, nI_eq, ck_n, nm_n, nI_clamp, Option.bind_some, if_pos, if_neg, bk_n0, bk_n1, nI_sub, upd_s, mi_e, mi_ne, mi_ne2, mi_lt, mi_le, mi_nle, mi_nlt, mi_s, bt_shrE, bit_e, true_and, and_true, if_true, if_false, ne_eq, not_true_eq_false, not_false_eq_true, Bool.false_eq_true, Bool.true_eq_false, reduceCtorEq, we', ue, ui, p3, wi, b2i_0]; exact g
        · right
          refine ⟨?_, no (fun hc => ht1 (hc.1 hun))⟩
          simp (disch := omega) only [lI, nI_add, pk_mul, nI_leI, nI_ltI, nI_eq, ck_n, nm_n, nI_clamp, Option.bind_some, if_pos, if_neg, bk_n0, bk_n1, nI_sub, upd_s, mi_e, mi_ne, mi_ne2, mi_lt, mi_le, mi_nle, mi_nlt, mi_s, bt_shrE, bit_e, true_and, and_true, if_true, if_false, ne_eq, not_true_eq_false, not_false_eq_true, Bool.false_eq_true, Bool.true_eq_false, reduceCtorEq, we', ue, ui, p3]
      · have hc : CE O L T R i t e := ⟨fun h => absurd h hun, fun h => absurd h4 h, fun _ h => absurd h4 h⟩
        have g := go hc
        rcases wz : (!(kdO O i == 4)) with _ | _
        · rw [wz] at wi
          simp (disch := omega) only [lI, nI_add, pk_mul, nI_leI, nI_ltI, nI_eq, ck_n, nm_n, nI_clamp, Option.bind_some, if_pos, if_neg, bk_n0, bk_n1, nI_sub, upd_s, mi_e, mi_ne, mi_ne2, mi_lt, mi_le, mi_nle, mi_nlt, mi_s, bt_shrE, bit_e, true_and, and_true, if_true, if_false, ne_eq, not_true_eq_false, not_false_eq_true, Bool.false_eq_true, Bool.true_eq_false, reduceCtorEq, we', ue, ui, p3, wi, b2i_0]; exact g
        · rw [wz] at wi
          simp (disch := omega) only [lI, nI_add, pk_mul, nI_leI, nI_ltI, nI_eq, ck_n, nm_n, nI_clamp, Option.bind_some, if_pos, if_neg, bk_n0, bk_n1, nI_sub, upd_s, mi_e, mi_ne, mi_ne2, mi_lt, mi_le, mi_nle, mi_nlt, mi_s, bt_shrE, bit_e, true_and, and_true, if_true, if_false, ne_eq, not_true_eq_false, not_false_eq_true, Bool.false_eq_true, Bool.true_eq_false, reduceCtorEq, we', ue, ui, p3, wi, b2i_0]; exact g
    · have we' : f_Mo_writes mo mopn (nI e) = some (nI 1) := by rw [we, beq_false_of_ne h4]; rfl
      obtain ⟨r1, r2, r3⟩ := p4 h4
      by_cases bad1 : RRO O i (tgO O e) = true ∧ ¬ R e < t
      · right
        refine ⟨?_, no (fun hc => bad1.2 (hc.2.1 h4 bad1.1))⟩
        have hz := bad1.2
        rw [bad1.1] at rr
        simp (disch := omega) only [lI, nI_add, pk_mul, nI_leI, nI_ltI, nI_eq, ck_n, nm_n, nI_clamp, Option.bind_some, if_pos, if_neg, bk_n0, bk_n1, nI_sub, upd_s, mi_e, mi_ne, mi_ne2, mi_lt, mi_le, mi_nle, mi_nlt, mi_s, bt_shrE, bit_e, true_and, and_true, if_true, if_false, ne_eq, not_true_eq_false, not_false_eq_true, Bool.false_eq_true, Bool.true_eq_false, reduceCtorEq, we', b2, rr, b2i_0, r3]
      · -- the first test is passed
        have t1 : ∀ z : Option Int32, ((f_Mo_readsRegister mo mopn (nI i) (nI (tgO O e))).bind fun y5 => if y5 = nI 0 then z else if R e < t then z else some (nI 0)) = z := fun z => by
          rw [rr]
          rcases hz : RRO O i (tgO O e) with _ | _
          · simp (disch := omega) only [lI, nI_add, pk_mul, nI_leI, nI_ltI, nI_eq, ck_n, nm_n, nI_clamp, Option.bind_some, if_pos, if_neg, bk_n0, bk_n1, nI_sub, upd_s, mi_e, mi_ne, mi_ne2, mi_lt, mi_le, mi_nle, mi_nlt, mi_s, bt_shrE, bit_e, true_and, and_true, if_true, if_false, ne_eq, not_true_eq_false, not_false_eq_true, Bool.false_eq_true, Bool.true_eq_false, reduceCtorEq, b2i_0]
          · have : R e < t := Classical.byContradiction (fun h => bad1 ⟨hz, h⟩)
            simp (disch := omega) only [lI, nI_add, pk_mul, nI_leI, nI_ltI, nI_eq, ck_n, nm_n, nI_clamp, Option.bind_some, if_pos, if_neg, bk_n0, bk_n1, nI_sub, upd_s, mi_e, mi_ne, mi_ne2, mi_lt, mi_le, mi_nle, mi_nlt, mi_s, bt_shrE, bit_e, true_and, and_true, if_true, if_false, ne_eq, not_true_eq_false, not_false_eq_true, Bool.false_eq_true, Bool.true_eq_false, reduceCtorEq, b2i_0]
        have hc2 : kdO O e ≠ 4 → RRO O i (tgO O e) = true → R e < t := fun _ h => Classical.byContradiction (fun h2 => bad1 ⟨h, h2⟩)
        by_cases hun : unO O e = unO O i
        · rw [hun] at ue
          by_cases ht1 : T e < t
          · rcases wz : (kdO O i == 4) with _ | _
            · have h4i : kdO O i ≠ 4 := fun h => by rw [h] at wz; cases wz
              rw [wz] at wi
              by_cases ht3 : R e < t + L (unO O i)
              · have g := go ⟨fun _ => ht1, hc2, fun _ _ _ => ht3⟩
                simp (disch := omega) only [lI, nI_add, pk_mul, nI_leI, nI_ltI, nI_eq, ck_n, nm_n, nI_clamp, Option.bind_some, if_pos, if_neg, bk_n0, bk_n1, nI_sub, upd_s, mi_e, mi_ne, mi_ne2, mi_lt, mi_le, mi_nle, mi_nlt, mi_s, bt_shrE, bit_e, true_and, and_true, if_true, if_false, ne_eq, not_true_eq_false, not_false_eq_true, Bool.false_eq_true, Bool.true_eq_false, reduceCtorEq, we', b2, ue, ui, p3, wi, b2i_0, r3, l2, Bool.not_false]
                rw [t1]; exact g
              · right
                refine ⟨?_, no (fun hc => ht3 (hc.2.2 h4i h4 hun))⟩
                simp (disch := omega) only [lI, nI_add, pk_mul, nI_leI, nI_ltI, nI_eq, ck_n, nm_n, nI_clamp, Option.bind_some, if_pos, if_neg, bk_n0, bk_n1, nI_sub, upd_s, mi_e, mi_ne, mi_ne2, mi_lt, mi_le, mi_nle, mi_nlt, mi_s, bt_shrE, bit_e, true_and, and_true, if_true, if_false, ne_eq, not_true_eq_false, not_false_eq_true, Bool.false_eq_true, Bool.true_eq_false, reduceCtorEq, we', b2, ue, ui, p3, wi, b2i_0, r3, l2, Bool.not_false]
                rw [rr, Option.bind_some]
                split <;> rfl
            · have h4i : kdO O i = 4 := by simpa using wz
              rw [wz] at wi
              have g := go ⟨fun _ => ht1, hc2, fun h => absurd h4i h⟩
              simp (disch := omega) only [lI, nI_add, pk_mul, nI_leI, nI_ltI, nI_eq, ck_n, nm_n, nI_clamp, Option.bind_some, if_pos, if_neg, bk_n0, bk_n1, nI_sub, upd_s, mi_e, mi_ne, mi_ne2, mi_lt, mi_le, mi_nle, mi_nlt, mi_s, bt_shrE, bit_e, true_and, and_true, if_true, if_false, ne_eq, not_true_eq_false, not_false_eq_true, Bool.false_eq_true, Bool.true_eq_false, reduceCtorEq, we', b2, ue, ui, p3, wi, b2i_0, r3, l2, Bool.not_true]
              rw [t1]; exact g
          · right
            refine ⟨?_, no (fun hc => ht1 (hc.1 hun))⟩
            simp (disch := omega) only [lI, nI_add, pk_mul, nI_leI, nI_ltI, nI_eq, ck_n, nm_n, nI_clamp, Option.bind_some, if_pos, if_neg, bk_n0, bk_n1, nI_sub, upd_s, mi_e, mi_ne, mi_ne2, mi_lt, mi_le, mi_nle, mi_nlt, mi_s, bt_shrE, bit_e, true_and, and_true, if_true, if_false, ne_eq, not_true_eq_false, not_false_eq_true, Bool.false_eq_true, Bool.true_eq_false, reduceCtorEq, we', b2, ue, ui, p3, r3]
            rw [t1]
        · have g := go ⟨fun h => absurd h hun, hc2, fun _ _ h => absurd h hun⟩
          rcases wz : (kdO O i == 4) with _ | _
          · rw [wz] at wi
            simp (disch := omega) only [lI, nI_add, pk_mul, nI_leI, nI_ltI, nI_eq, ck_n, nm_n, nI_clamp, Option.bind_some, if_pos, if_neg, bk_n0, bk_n1, nI_sub, upd_s, mi_e, mi_ne, mi_ne2, mi_lt, mi_le, mi_nle, mi_nlt, mi_s, bt_shrE, bit_e, true_and, and_true, if_true, if_false, ne_eq, not_true_eq_false, not_false_eq_true, Bool.false_eq_true, Bool.true_eq_false, reduceCtorEq, we', b2, ue, ui, p3, wi, b2i_0, r3, l2, Bool.not_false]
            rw [t1]; exact g
          · rw [wz] at wi
            simp (disch := omega) only [lI, nI_add, pk_mul, nI_leI, nI_ltI, nI_eq, ck_n, nm_n, nI_clamp, Option.bind_some, if_pos, if_neg, bk_n0, bk_n1, nI_sub, upd_s, mi_e, mi_ne, mi_ne2, mi_lt, mi_le, mi_nle, mi_nlt, mi_s, bt_shrE, bit_e, true_and, and_true, if_true, if_false, ne_eq, not_true_eq_false, not_false_eq_true, Bool.false_eq_true, Bool.true_eq_false, reduceCtorEq, we', b2, ue, ui, p3, wi, b2i_0, r3, l2, Bool.not_true]
            rw [t1]; exact g
