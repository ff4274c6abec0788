def PI (B : Nat) (O : OT) (i H : Nat) (T R : Nat → Nat) (bs rr hr lw lr lt lm tc rc mlaid mopt mopr : Nat → Int32) : Prop :=
  MLD B (laidN O T R i) mlaid ∧ PTR O i T R tc rc mopt mopr ∧ (∀ c, c < 64 → bs c = nI ((laidN O T R i).2 c)) ∧ RRD (laidN O T R i).1 rr ∧ HRD O i R hr ∧ (∀ k, k < 8 → MXL i (fun e => kdO O e ≠ 4 ∧ tgO O e = k) R (lw k)) ∧ (∀ k, k < 8 → MXL i (fun e => RRO O e k = true) T (lr k)) ∧ (∀ u, u < 3 → MXL i (fun e => unO O e = u) T (lt u)) ∧ (∀ u, u < 3 → MXL i (fun e => kdO O e ≠ 4 ∧ unO O e = u) R (lm u)) ∧ (∀ c, (laidN O T R i).2 c ≠ 0 → c < H) ∧ H ≤ 64
def setF (F : Nat → Nat) (i x : Nat) : Nat → Nat := fun e => if e = i then x else F e
theorem setF_s (F : Nat → Nat) (i x : Nat) : setF F i x i = x := if_pos rfl
theorem setF_n (F : Nat → Nat) {i x e : Nat} (h : e ≠ i) : setF F i x e = F e := if_neg h
set_option maxHeartbeats 4000000 in
theorem one_n {B : Nat} (hB : BV B) {O : OT} {L T R : Nat → Nat} {N i H : Nat} {lat mlat r_co op ki tg fi se oc mopn mo bs rr hr lw lr lt lm tc rc mlaid mopt mopr : Nat → Int32} (hL : LL L lat mlat) (hO : OL O N ki tg fi se oc mopn) (hi : i < N) (h0 : r_co 0 = nI B) (h1 : mo 1 = nI B) (hP : PI B O i H T R bs rr hr lw lr lt lm tc rc mlaid mopt mopr) :
    (∃ bs' rr' hr' lw' lr' lt' lm' tc' rc' mlaid' mopt' mopr', f_Pl_planOne lat r_co op ki tg fi se bs rr hr lw lr lt lm tc rc (nI i) = some (mi, bs', rr', hr', lw', lr', lt', lm', tc', rc') ∧ f_Mo_layOperation mo mlat mopn mlaid mopt mopr (nI i) = some (mi, mlaid', mopt', mopr')) ∨ ∃ e T' R' bs' rr' hr' lw' lr' lt' lm' tc' rc' mlaid' mopt' mopr', e < 64 ∧ f_Pl_planOne lat r_co op ki tg fi se bs rr hr lw lr lt lm tc rc (nI i) = some (nI e, bs', rr', hr', lw', lr', lt', lm', tc', rc') ∧ f_Mo_layOperation mo mlat mopn mlaid mopt mopr (nI i) = some (nI e, mlaid', mopt', mopr') ∧ PI B O (i + 1) (max H (e + 1)) T' R' bs' rr' hr' lw' lr' lt' lm' tc' rc' mlaid' mopt' mopr' := by
  have hB4 := hB.2
  have hB2 := hB.1
  have h20 := hO.1
  obtain ⟨p1, p2, p3, p4, p5, p6, p7, p8, p9, p10, p11⟩ := hP
  have hun := unO_lt O i
  obtain ⟨l1, l2, l3, l4⟩ := hL (unO O i) hun
  obtain ⟨a1, a2, a3, a4, a5, b1, b2, b3, b4, b5, k1, k2, k3, k4, _⟩ := OL_at hO hi
  obtain ⟨t1, c1, c2, c3, c4, c5⟩ := lay35_lp (L := L) hB hL hO hi h1 p1.1 p1.2.1 p1.2.2 p2 (nI (kdO O i)) (nI (aO O i)) (nI (bO O i)) 64 0 5000 (by omega) (by omega)
  have hlay : f_Mo_layOperation mo mlat mopn mlaid mopt mopr (nI i) = f_Mo_layOperation_58 mo mlat mopn mlaid mopt mopr (nI i) (nI (kdO O i)) (nI (aO O i)) (nI (bO O i)) (nI t1) := by
    unfold f_Mo_layOperation
    simp (disch := omega) only [lI, nI_add, pk_mul, nI_leI, nI_ltI, nI_eq, ck_n, nm_n, nI_clamp, Option.bind_some, if_pos, if_neg, bk_n0, bk_n1, nI_sub, upd_s, mi_e, mi_ne, mi_ne2, mi_lt, mi_le, mi_nle, mi_nlt, mi_s, bt_shrE, bit_e, true_and, and_true, if_true, if_false, ne_eq, not_true_eq_false, not_false_eq_true, Bool.false_eq_true, Bool.true_eq_false, reduceCtorEq, b1, b3, b4]
    exact c5
  have hn12 : 1 ≤ needO O i ∧ needO O i ≤ 2 := by unfold needO; split <;> omega
  rcases trigC_n (op := op) hB hL hO hi h0 p1.2.2 p3 p4 p6 p9 p8 with ⟨q1, q2⟩ | ⟨t2, q1, q2, q3, q4⟩
  · -- no cycle
    left
    have e64 : t1 = 64 := by
      rcases Nat.lt_or_ge t1 64 with h | h
      · exact absurd (c4 h) (q2 t1 h)
      · omega
    refine ⟨bs, rr, hr, lw, lr, lt, lm, tc, rc, mlaid, mopt, mopr, ?_, ?_⟩
    · unfold f_Pl_planOne
      simp (disch := omega) only [lI, nI_add, pk_mul, nI_leI, nI_ltI, nI_eq, ck_n, nm_n, nI_clamp, Option.bind_some, if_pos, if_neg, bk_n0, bk_n1, nI_sub, upd_s, mi_e, mi_ne, mi_ne2, mi_lt, mi_le, mi_nle, mi_nlt, mi_s, bt_shrE, bit_e, true_and, and_true, if_true, if_false, ne_eq, not_true_eq_false, not_false_eq_true, Bool.false_eq_true, Bool.true_eq_false, reduceCtorEq, q1]
    · rw [hlay, e64]
      unfold f_Mo_layOperation_58
      simp (disch := omega) only [lI, nI_add, pk_mul, nI_leI, nI_ltI, nI_eq, ck_n, nm_n, nI_clamp, Option.bind_some, if_pos, if_neg, bk_n0, bk_n1, nI_sub, upd_s, mi_e, mi_ne, mi_ne2, mi_lt, mi_le, mi_nle, mi_nlt, mi_s, bt_shrE, bit_e, true_and, and_true, if_true, if_false, ne_eq, not_true_eq_false, not_false_eq_true, Bool.false_eq_true, Bool.true_eq_false, reduceCtorEq]
  · have et : t1 = t2 := by
      rcases Nat.lt_trichotomy t1 t2 with h | h | h
      · exact absurd (c4 (by omega)) (q3 t1 h)
      · exact h
      · exact absurd q2 (c3 t2 (by omega) h)
    subst et
    have hUt := (p1.2.2 t1 q1).1
    have hroom : (laidN O T R i).2 t1 + needO O i ≤ B := by
      have := q2.1.1; omega
    obtain ⟨y, lr', n1, n2, n3, n4⟩ := noteT_n (op := op) (rr := rr) (lr := lr) (lt := lt) (tc := tc) hO hi q1 (p3 t1 q1) (show (laidN O T R i).2 t1 ≤ 4 by omega)
    obtain ⟨mlaid1, m1, m2⟩ := lay118_n (mo := mo) (mopt := upd mopt i (nI t1)) (mopr := mopr) hB hL hO hi p1 q1 hroom
    rw [← lay58_n hO hi q1, ← hlay] at m1
    -- what both hold behind the trigger
    have hS1 := m2
    have hbs1 : ∀ c, c < 64 → upd bs t1 (nI ((laidN O T R i).2 t1 + needO O i)) c = nI ((layB O i t1 (laidN O T R i)).2 c) := fun c hc => by
      by_cases e : c = t1
      · subst e; rw [upd_s, layB_U]
      · rw [upd_n e, layB_n e]; exact p3 c hc
    have hA1 : UU B (layA O i t1 (laidN O T R i)).1 (layA O i t1 (laidN O T R i)).2 ∧ (layA O i t1 (laidN O T R i)).2 t1 < B := by
      have := layA_U (O := O) (i := i) (t := t1) (S := laidN O T R i)
      refine ⟨?_, by omega⟩
      unfold layA
      split
      · exact p1.2.2
      · exact UU_put p1.2.2 (by omega) _
    have hrr1 : RRD (layB O i t1 (laidN O T R i)).1 (upd rr t1 (rr t1 ||| y)) := fun c hc => by
      refine ⟨fun k hk => ?_, fun k h8 hk => ?_⟩
      · unfold layB
        rw [any_put hA1.1 hB4 q1 hA1.2]
        have hA2 : anyM (fun q => q.1 == k) (LM (layA O i t1 (laidN O T R i)).1 c) 4 = (anyM (fun q => q.1 == k) (LM (laidN O T R i).1 c) 4 || (decide (c = t1) && (!(kdO O i == 3) && srcO (aO O i) == k))) := by
          unfold layA
          by_cases h3 : kdO O i = 3
          · rw [if_pos h3, h3]; simp
          · rw [if_neg h3, any_put p1.2.2 hB4 q1 (by omega), beq_false_of_ne h3]; simp
        rw [hA2]
        by_cases e : c = t1
        · subst e
          rw [upd_s, bt_or, (p4 c hc).1 k hk, n2 k hk]
          simp only [decide_true, Bool.true_and]
          rw [srcO_eq hk, srcO_eq hk, Bool.or_assoc]
          congr 1
          unfold RRO xO
          by_cases h3 : kdO O i = 3
          · rw [if_pos h3, h3]; simp
          · rw [if_neg h3, beq_false_of_ne h3]; simp
        · rw [upd_n e, (p4 c hc).1 k hk, decide_eq_false e]; simp
      · by_cases e : c = t1
        · subst e
          rw [upd_s, bt_or, (p4 c hc).2 k h8 hk, n3 k h8 hk]; rfl
        · rw [upd_n e]; exact (p4 c hc).2 k h8 hk
    have hT' : ∀ e, e < i → setF T i t1 e = T e := fun e he => setF_n T (by omega)
    have hlr1 : ∀ k, k < 8 → MXL (i + 1) (fun e => RRO O e k = true) (setF T i t1) (lr' k) := fun k hk => by
      rw [n4 k hk]
      rcases hz : RRO O i k with _ | _
      · exact MXL_no hT' (by rw [hz]; simp) (p7 k hk)
      · have := MXL_max (S := fun e => RRO O e k = true) hT' hz (by rw [setF_s]; exact q1) (p7 k hk)
        rw [setF_s] at this
        exact this
    have hlt1 : ∀ u, u < 3 → MXL (i + 1) (fun e => unO O e = u) (setF T i t1) (upd lt (unO O i) (nI t1) u) := fun u hu => by
      by_cases e : u = unO O i
      · subst e
        have := MXL_set (S := fun e => unO O e = unO O i) (x := mi) hT' rfl (by rw [setF_s]; exact q1) (fun e he hs => by rw [setF_s]; exact Nat.le_of_lt ((q2.2 e he).1 hs))
        rw [setF_s] at this
        rw [upd_s]; exact this
      · rw [upd_n e]
        exact MXL_no hT' (fun h => e h.symm) (p8 u hu)
    have hne : nI t1 ≠ mi := fun h => nI_m1 (by omega) h
    by_cases h4 : kdO O i = 4
    · -- a store
      right
      have hlaid : laidN O (setF T i t1) R (i + 1) = layB O i t1 (laidN O T R i) := by
        show layC O i (R i) (layB O i (setF T i t1 i) (laidN O (setF T i t1) R i)) = _
        rw [laidN_congr i (fun e he => ⟨hT' e he, rfl⟩), setF_s]
        unfold layC; rw [if_pos h4]
      refine ⟨t1, setF T i t1, R, upd bs t1 (nI ((laidN O T R i).2 t1 + needO O i)), upd rr t1 (rr t1 ||| y), hr, lw, lr', upd lt (unO O i) (nI t1), lm, upd tc i (nI t1), rc, mlaid1, upd mopt i (nI t1), mopr, q1, ?_, ?_, ?_⟩
      · unfold f_Pl_planOne
        simp (disch := omega) only [lI, nI_add, pk_mul, nI_leI, nI_ltI, nI_eq, ck_n, nm_n, nI_clamp, Option.bind_some, if_pos, if_neg, bk_n0, bk_n1, nI_sub, upd_s, mi_e, mi_ne, mi_ne2, mi_lt, mi_le, mi_nle, mi_nlt, mi_s, bt_shrE, bit_e, true_and, and_true, if_true, if_false, ne_eq, not_true_eq_false, not_false_eq_true, Bool.false_eq_true, Bool.true_eq_false, reduceCtorEq, q4, n1, isStore_n hO hi, h4, beq_self_eq_true, b2i_0]
      · rw [m1, if_pos h4]
      · refine ⟨by rw [hlaid]; exact m2, fun e he => ?_, by rw [hlaid]; exact hbs1, by rw [hlaid]; exact hrr1, fun c hc => ?_, fun k hk => ?_, hlr1, hlt1, fun u hu => ?_, fun c hc => ?_, by omega⟩
        · by_cases e2 : e = i
          · subst e2
            rw [setF_s, upd_s, upd_s]
            exact ⟨q1, rfl, rfl, fun h => absurd h4 h⟩
          · rw [setF_n T e2, upd_n e2, upd_n e2]
            exact p2 e (by omega)
        · rcases p5 c hc with ⟨z1, e, z2, z3, z4⟩ | ⟨z1, z2⟩
          · exact Or.inl ⟨z1, e, by omega, z3, z4⟩
          · refine Or.inr ⟨z1, fun e he hk => ?_⟩
            by_cases e2 : e = i
            · subst e2; exact absurd h4 hk
            · exact z2 e (by omega) hk
        · exact MXL_no (fun e _ => rfl) (fun h => h.1 h4) (p6 k hk)
        · exact MXL_no (fun e _ => rfl) (fun h => h.1 h4) (p9 u hu)
        · rw [hlaid] at hc
          by_cases e : c = t1
          · omega
          · rw [layB_n e] at hc
            have := p10 c hc; omega
    · -- a result is moved
      rw [if_neg h4] at m1
      have hPTR1 : PTR O i (setF T i t1) R (upd tc i (nI t1)) rc (upd mopt i (nI t1)) mopr := fun e he => by
        rw [setF_n T (by omega), upd_n (by omega), upd_n (by omega)]
        exact p2 e he
      obtain ⟨r1, d1, d2, d3, d4, d5⟩ := lay203_lp (mlat := mlat) hB hO hi h1 m2.1 m2.2.1 m2.2.2 hPTR1 64 (t1 + L (unO O i)) 5000 (by omega) (by omega) (by omega)
      rw [d5] at m1
      rcases resC_n (op := op) hB hL hO hi h0 m2.2.2 hbs1 p5 p6 hlr1 q1 (setF_s T i t1) with ⟨g1, g2⟩ | ⟨r2, g1, g2, g3, g4, g5⟩
      · left
        have e64 : 64 ≤ r1 := by
          rcases Nat.lt_or_ge r1 64 with h | h
          · exact absurd (d4 h) (g2 r1 d1 h)
          · exact h
        refine ⟨upd bs t1 (nI ((laidN O T R i).2 t1 + needO O i)), upd rr t1 (rr t1 ||| y), hr, lw, lr', upd lt (unO O i) (nI t1), lm, upd tc i (nI t1), rc, mlaid1, upd mopt i (nI t1), mopr, ?_, ?_⟩
        · unfold f_Pl_planOne
          simp (disch := omega) only [lI, nI_add, pk_mul, nI_leI, nI_ltI, nI_eq, ck_n, nm_n, nI_clamp, Option.bind_some, if_pos, if_neg, bk_n0, bk_n1, nI_sub, upd_s, mi_e, mi_ne, mi_ne2, mi_lt, mi_le, mi_nle, mi_nlt, mi_s, bt_shrE, bit_e, true_and, and_true, if_true, if_false, ne_eq, not_true_eq_false, not_false_eq_true, Bool.false_eq_true, Bool.true_eq_false, reduceCtorEq, q4, n1, isStore_n hO hi, beq_false_of_ne h4, b2i_0, g1]
        · rw [m1]
          unfold f_Mo_layOperation_226
          simp (disch := omega) only [lI, nI_add, pk_mul, nI_leI, nI_ltI, nI_eq, ck_n, nm_n, nI_clamp, Option.bind_some, if_pos, if_neg, bk_n0, bk_n1, nI_sub, upd_s, mi_e, mi_ne, mi_ne2, mi_lt, mi_le, mi_nle, mi_nlt, mi_s, bt_shrE, bit_e, true_and, and_true, if_true, if_false, ne_eq, not_true_eq_false, not_false_eq_true, Bool.false_eq_true, Bool.true_eq_false, reduceCtorEq]
      · right
        have er : r1 = r2 := by
          rcases Nat.lt_trichotomy r1 r2 with h | h | h
          · exact absurd (d4 (by omega)) (g4 r1 d1 h)
          · exact h
          · exact absurd g3 (d3 r2 g1 h).2
        subst er
        obtain ⟨mlaid2, s1, s2⟩ := lay226_n (mo := mo) (mlat := mlat) (mopt := upd mopt i (nI t1)) (mopr := mopr) hB hO hi m2 g2 g3.1 h4
        rw [s1] at m1
        have hnr := noteR_n (op := op) (hr := hr) (lw := lw) (lm := lm) (rc := rc) hO hi g2 (hbs1 r1 g2) (show (layB O i t1 (laidN O T R i)).2 r1 ≤ 4 by omega)
        have hR' : ∀ e, e < i → setF R i r1 e = R e := fun e he => setF_n R (by omega)
        have hlaid : laidN O (setF T i t1) (setF R i r1) (i + 1) = layK (layB O i t1 (laidN O T R i)) r1 (0, 8 + unO O i, nI 0, tgO O i) := by
          show layC O i (setF R i r1 i) (layB O i (setF T i t1 i) (laidN O (setF T i t1) (setF R i r1) i)) = _
          rw [laidN_congr i (fun e he => ⟨hT' e he, hR' e he⟩), setF_s, setF_s]
          unfold layC; rw [if_neg h4]
        have hne2 : ¬ nI r1 = mi := nI_m1 (by omega)
        refine ⟨r1, setF T i t1, setF R i r1, upd (upd bs t1 (nI ((laidN O T R i).2 t1 + needO O i))) r1 (nI ((layB O i t1 (laidN O T R i)).2 r1 + 1)), upd rr t1 (rr t1 ||| y), upd hr r1 (nI 1), upd lw (tgO O i) (nI r1), lr', upd lt (unO O i) (nI t1), upd lm (unO O i) (nI r1), upd tc i (nI t1), upd rc i (nI r1), mlaid2, upd mopt i (nI t1), upd mopr i (nI r1), g2, ?_, m1, ?_⟩
        · unfold f_Pl_planOne
          simp (disch := omega) only [lI, nI_add, pk_mul, nI_leI, nI_ltI, nI_eq, ck_n, nm_n, nI_clamp, Option.bind_some, if_pos, if_neg, bk_n0, bk_n1, nI_sub, upd_s, mi_e, mi_ne, mi_ne2, mi_lt, mi_le, mi_nle, mi_nlt, mi_s, bt_shrE, bit_e, true_and, and_true, if_true, if_false, ne_eq, not_true_eq_false, not_false_eq_true, Bool.false_eq_true, Bool.true_eq_false, reduceCtorEq, q4, n1, isStore_n hO hi, beq_false_of_ne h4, b2i_0, g5, hnr]
        · refine ⟨by rw [hlaid]; unfold layC at s2; rw [if_neg h4] at s2; exact s2, fun e he => ?_, fun c hc => ?_, fun c hc => ?_, fun c hc => ?_, fun k hk => ?_, hlr1, hlt1, fun u hu => ?_, fun c hc => ?_, by omega⟩
          · by_cases e2 : e = i
            · subst e2
              rw [setF_s, setF_s, upd_s, upd_s, upd_s, upd_s]
              exact ⟨q1, rfl, rfl, fun _ => ⟨g2, rfl, rfl⟩⟩
            · rw [setF_n T e2, setF_n R e2, upd_n e2, upd_n e2, upd_n e2, upd_n e2]
              exact p2 e (by omega)
          · rw [hlaid]
            show _ = nI (bump (layB O i t1 (laidN O T R i)).2 r1 c)
            by_cases e : c = r1
            · subst e; rw [upd_s, bump_s]
            · rw [upd_n e, bump_n _ e]; exact hbs1 c hc
          · rw [hlaid]
            refine ⟨fun k hk => ?_, (hrr1 c hc).2⟩
            rw [any_put m2.2.2 hB4 g2 g3.1, (hrr1 c hc).1 k hk]
            have : ¬ 8 + unO O i = k := by omega
            simp [beq_false_of_ne this]
          · by_cases e : c = r1
            · subst e
              exact Or.inl ⟨upd_s _ _ _, i, by omega, h4, setF_s R i c⟩
            · rw [upd_n e]
              rcases p5 c hc with ⟨z1, e', z2, z3, z4⟩ | ⟨z1, z2⟩
              · exact Or.inl ⟨z1, e', by omega, z3, by rw [setF_n R (by omega)]; exact z4⟩
              · refine Or.inr ⟨z1, fun e' he hk => ?_⟩
                by_cases e2 : e' = i
                · subst e2; rw [setF_s]; exact fun h => e h.symm
                · rw [setF_n R e2]; exact z2 e' (by omega) hk
          · by_cases e : k = tgO O i
            · subst e
              have := MXL_set (S := fun e => kdO O e ≠ 4 ∧ tgO O e = tgO O i) (x := mi) hR' ⟨h4, rfl⟩ (by rw [setF_s]; exact g2) (fun e he hs => by rw [setF_s]; exact Nat.le_of_lt (((g3.2 e he).1 hs.1).2 hs.2))
              rw [setF_s] at this
              rw [upd_s]; exact this
            · rw [upd_n e]
              exact MXL_no hR' (fun h => e h.2.symm) (p6 k hk)
          · by_cases e : u = unO O i
            · subst e
              have := MXL_set (S := fun e => kdO O e ≠ 4 ∧ unO O e = unO O i) (x := mi) hR' ⟨h4, rfl⟩ (by rw [setF_s]; exact g2) (fun e he hs => by
                rw [setF_s]
                have := (q2.2 e he).2.2 h4 hs.1 hs.2
                omega)
              rw [setF_s] at this
              rw [upd_s]; exact this
            · rw [upd_n e]
              exact MXL_no hR' (fun h => e h.2.symm) (p9 u hu)
          · rw [hlaid] at hc
            by_cases e : c = r1
            · omega
            · have hc2 : bump (layB O i t1 (laidN O T R i)).2 r1 c ≠ 0 := hc
              rw [bump_n _ e] at hc2
              by_cases e3 : c = t1
              · omega
              · rw [layB_n e3] at hc2
                have := p10 c hc2; omega
