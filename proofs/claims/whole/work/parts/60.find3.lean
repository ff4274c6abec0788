theorem isEnd_n {B : Nat} (hB : BV B) {O : OT} {T R : Nat → Nat} {K : KT} {U : Nat → Nat} {N i r : Nat} {ki tg fi se oc mopn mo mlaid mopt mopr tc rc : Nat → Int32} (hO : OL O N ki tg fi se oc mopn) (hi : i < N) (h1 : mo 1 = nI B) (hM : KM K mlaid) (hV : KV B K) (hU : UU B K U) (hT : PTR O i T R tc rc mopt mopr) (hr : r < 64) : (f_Mo_isEnd mo mopn mlaid mopt mopr (nI i) (nI r) = some (nI 1) ∧ U r < B ∧ ∀ e, e < i → C2 O T R i r e) ∨ (f_Mo_isEnd mo mopn mlaid mopt mopr (nI i) (nI r) = some (nI 0) ∧ ¬ (U r < B ∧ ∀ e, e < i → C2 O T R i r e)) := by
  have hB4 := hB.2
  have h20 := hO.1
  have hu := (hU r hr).1
  obtain ⟨a1, a2, a3, a4, a5, b1, b2, b3, b4, b5, k1, k2, k3, k4, _⟩ := OL_at hO hi
  unfold f_Mo_isEnd
  rw [free_n hB h1 hM hV hU hr]
  by_cases h : U r < B
  · simp (disch := omega) only [lI, nI_add, pk_mul, nI_leI, nI_ltI, nI_eq, ck_n, nm_n, nI_clamp, Option.bind_some, if_pos, if_neg, bk_n0, bk_n1, nI_sub, upd_s, mi_e, mi_ne, mi_ne2, mi_lt, mi_le, mi_nle, mi_nlt, mi_s, bt_shrE, bit_e, true_and, and_true, if_true, if_false, ne_eq, not_true_eq_false, not_false_eq_true, Bool.false_eq_true, Bool.true_eq_false, reduceCtorEq, b2]
    rcases end25_lp (mo := mo) (mlaid := mlaid) hO hi hr hT i 0 5000 (by omega) (by omega) with ⟨q1, q2⟩ | ⟨q1, q2⟩
    · exact Or.inl ⟨q1, h, fun e he => q2 e (by omega) he⟩
    · exact Or.inr ⟨q1, fun h => q2 (fun e _ he => h.2 e he)⟩
  · simp (disch := omega) only [lI, nI_add, pk_mul, nI_leI, nI_ltI, nI_eq, ck_n, nm_n, nI_clamp, Option.bind_some, if_pos, if_neg, bk_n0, bk_n1, nI_sub, upd_s, mi_e, mi_ne, mi_ne2, mi_lt, mi_le, mi_nle, mi_nlt, mi_s, bt_shrE, bit_e, true_and, and_true, if_true, if_false, ne_eq, not_true_eq_false, not_false_eq_true, Bool.false_eq_true, Bool.true_eq_false, reduceCtorEq]
    exact Or.inr (fun q => h q.1)
theorem lay203_lp {B : Nat} (hB : BV B) {O : OT} {T R : Nat → Nat} {K : KT} {U : Nat → Nat} {N i : Nat} {ki tg fi se oc mopn mlat mo mlaid mopt mopr tc rc : Nat → Int32} (hO : OL O N ki tg fi se oc mopn) (hi : i < N) (h1 : mo 1 = nI B) (hM : KM K mlaid) (hV : KV B K) (hU : UU B K U) (hT : PTR O i T R tc rc mopt mopr) : ∀ (d r n : Nat), 64 ≤ r + d → r < 100 → d < n → ∃ r1, r ≤ r1 ∧ r1 < 100 ∧ (∀ r', r ≤ r' → r' < r1 → r' < 64 ∧ ¬ (U r' < B ∧ ∀ e, e < i → C2 O T R i r' e)) ∧ (r1 < 64 → U r1 < B ∧ ∀ e, e < i → C2 O T R i r1 e) ∧ f_Mo_layOperation_203 n mo mlat mopn mlaid mopt mopr (nI i) (nI r) = f_Mo_layOperation_226 mo mlat mopn mlaid mopt mopr (nI i) (nI r1)
  | 0, r, n + 1, hr, hr2, hn => by
    refine ⟨r, Nat.le_refl _, hr2, fun t' h1 h2 => by omega, fun h => by omega, ?_⟩
    rw [f_Mo_layOperation_203]; simp (disch := omega) only [lI, nI_add, pk_mul, nI_leI, nI_ltI, nI_eq, ck_n, nm_n, nI_clamp, Option.bind_some, if_pos, if_neg, bk_n0, bk_n1, nI_sub, upd_s, mi_e, mi_ne, mi_ne2, mi_lt, mi_le, mi_nle, mi_nlt, mi_s, bt_shrE, bit_e, true_and, and_true, if_true, if_false, ne_eq, not_true_eq_false, not_false_eq_true, Bool.false_eq_true, Bool.true_eq_false, reduceCtorEq]
  | d + 1, r, n + 1, hr, hr2, hn => by
    rw [f_Mo_layOperation_203]
    by_cases h64 : 64 ≤ r
    · refine ⟨r, Nat.le_refl _, hr2, fun t' h1 h2 => by omega, fun h => by omega, ?_⟩
      simp (disch := omega) only [lI, nI_add, pk_mul, nI_leI, nI_ltI, nI_eq, ck_n, nm_n, nI_clamp, Option.bind_some, if_pos, if_neg, bk_n0, bk_n1, nI_sub, upd_s, mi_e, mi_ne, mi_ne2, mi_lt, mi_le, mi_nle, mi_nlt, mi_s, bt_shrE, bit_e, true_and, and_true, if_true, if_false, ne_eq, not_true_eq_false, not_false_eq_true, Bool.false_eq_true, Bool.true_eq_false, reduceCtorEq]
    · rcases isEnd_n hB hO hi h1 hM hV hU hT (show r < 64 by omega) with ⟨q1, q2⟩ | ⟨q1, q2⟩
      · refine ⟨r, Nat.le_refl _, hr2, fun t' h1 h2 => by omega, fun _ => q2, ?_⟩
        simp (disch := omega) only [lI, nI_add, pk_mul, nI_leI, nI_ltI, nI_eq, ck_n, nm_n, nI_clamp, Option.bind_some, if_pos, if_neg, bk_n0, bk_n1, nI_sub, upd_s, mi_e, mi_ne, mi_ne2, mi_lt, mi_le, mi_nle, mi_nlt, mi_s, bt_shrE, bit_e, true_and, and_true, if_true, if_false, ne_eq, not_true_eq_false, not_false_eq_true, Bool.false_eq_true, Bool.true_eq_false, reduceCtorEq, q1]
      · obtain ⟨r1, p1, p2, p3, p4, p5⟩ := lay203_lp hB (mlat := mlat) hO hi h1 hM hV hU hT d (r + 1) n (by omega) (by omega) (by omega)
        refine ⟨r1, by omega, p2, fun t' h1 h2 => ?_, p4, ?_⟩
        · by_cases e : t' = r
          · subst e; exact ⟨by omega, q2⟩
          · exact p3 t' (by omega) h2
        · simp (disch := omega) only [lI, nI_add, pk_mul, nI_leI, nI_ltI, nI_eq, ck_n, nm_n, nI_clamp, Option.bind_some, if_pos, if_neg, bk_n0, bk_n1, nI_sub, upd_s, mi_e, mi_ne, mi_ne2, mi_lt, mi_le, mi_nle, mi_nlt, mi_s, bt_shrE, bit_e, true_and, and_true, if_true, if_false, ne_eq, not_true_eq_false, not_false_eq_true, Bool.false_eq_true, Bool.true_eq_false, reduceCtorEq, q1]; exact p5
theorem rc_lp {B : Nat} (hB : BV B) {O : OT} {R : Nat → Nat} {K : KT} {U : Nat → Nat} {i : Nat} {lat r_co op ki tg bs hr lw lr : Nat → Int32} (h0 : r_co 0 = nI B) (hU : UU B K U) (hbs : ∀ c, c < 64 → bs c = nI (U c)) (hhr : HRD O i R hr) : ∀ (d r n : Nat), 64 ≤ r + d → r < 200 → d < n → (f_Pl_resultCycle_50 n lat r_co op ki tg bs hr lw lr (nI r) = some mi ∧ ∀ r', r ≤ r' → r' < 64 → ¬ (U r' < B ∧ ∀ e, e < i → kdO O e ≠ 4 → R e ≠ r')) ∨ ∃ r1, r ≤ r1 ∧ r1 < 64 ∧ (U r1 < B ∧ ∀ e, e < i → kdO O e ≠ 4 → R e ≠ r1) ∧ (∀ r', r ≤ r' → r' < r1 → ¬ (U r' < B ∧ ∀ e, e < i → kdO O e ≠ 4 → R e ≠ r')) ∧ f_Pl_resultCycle_50 n lat r_co op ki tg bs hr lw lr (nI r) = some (nI r1)
  | 0, r, n + 1, hr1, hr2, hn => by
    left
    refine ⟨?_, fun t' h1 h2 => by omega⟩
    rw [f_Pl_resultCycle_50]; simp (disch := omega) only [lI, nI_add, pk_mul, nI_leI, nI_ltI, nI_eq, ck_n, nm_n, nI_clamp, Option.bind_some, if_pos, if_neg, bk_n0, bk_n1, nI_sub, upd_s, mi_e, mi_ne, mi_ne2, mi_lt, mi_le, mi_nle, mi_nlt, mi_s, bt_shrE, bit_e, true_and, and_true, if_true, if_false, ne_eq, not_true_eq_false, not_false_eq_true, Bool.false_eq_true, Bool.true_eq_false, reduceCtorEq]
  | d + 1, r, n + 1, hr1, hr2, hn => by
    have hB4 := hB.2
    rw [f_Pl_resultCycle_50]
    unfold f_Pl_resultCycle_87
    by_cases h64 : 64 ≤ r
    · left
      refine ⟨?_, fun t' h1 h2 => by omega⟩
      simp (disch := omega) only [lI, nI_add, pk_mul, nI_leI, nI_ltI, nI_eq, ck_n, nm_n, nI_clamp, Option.bind_some, if_pos, if_neg, bk_n0, bk_n1, nI_sub, upd_s, mi_e, mi_ne, mi_ne2, mi_lt, mi_le, mi_nle, mi_nlt, mi_s, bt_shrE, bit_e, true_and, and_true, if_true, if_false, ne_eq, not_true_eq_false, not_false_eq_true, Bool.false_eq_true, Bool.true_eq_false, reduceCtorEq]
    · have hu := (hU r (by omega)).1
      have go : ¬ (U r < B ∧ ∀ e, e < i → kdO O e ≠ 4 → R e ≠ r) → (f_Pl_resultCycle_50 n lat r_co op ki tg bs hr lw lr (nI (r + 1)) = some mi ∧ ∀ r', r ≤ r' → r' < 64 → ¬ (U r' < B ∧ ∀ e, e < i → kdO O e ≠ 4 → R e ≠ r')) ∨ ∃ r1, r ≤ r1 ∧ r1 < 64 ∧ (U r1 < B ∧ ∀ e, e < i → kdO O e ≠ 4 → R e ≠ r1) ∧ (∀ r', r ≤ r' → r' < r1 → ¬ (U r' < B ∧ ∀ e, e < i → kdO O e ≠ 4 → R e ≠ r')) ∧ f_Pl_resultCycle_50 n lat r_co op ki tg bs hr lw lr (nI (r + 1)) = some (nI r1) := fun hno => by
        rcases rc_lp hB (lat := lat) (op := op) (ki := ki) (tg := tg) (lw := lw) (lr := lr) h0 hU hbs hhr d (r + 1) n (by omega) (by omega) (by omega) with ⟨q1, q2⟩ | ⟨r1, q1, q2, q3, q4, q5⟩
        · refine Or.inl ⟨q1, fun t' h1 h2 => ?_⟩
          by_cases e : t' = r
          · subst e; exact hno
          · exact q2 t' (by omega) h2
        · refine Or.inr ⟨r1, by omega, q2, q3, fun t' h1 h2 => ?_, q5⟩
          by_cases e : t' = r
          · subst e; exact hno
          · exact q4 t' (by omega) h2
      by_cases h1 : U r < B
      · rcases hhr r (by omega) with ⟨z1, e, ze, zk, zr⟩ | ⟨z1, z2⟩
        · simp (disch := omega) only [lI, nI_add, pk_mul, nI_leI, nI_ltI, nI_eq, ck_n, nm_n, nI_clamp, Option.bind_some, if_pos, if_neg, bk_n0, bk_n1, nI_sub, upd_s, mi_e, mi_ne, mi_ne2, mi_lt, mi_le, mi_nle, mi_nlt, mi_s, bt_shrE, bit_e, true_and, and_true, if_true, if_false, ne_eq, not_true_eq_false, not_false_eq_true, Bool.false_eq_true, Bool.true_eq_false, reduceCtorEq, h0, hbs r (by omega), z1]
          exact go (fun h => h.2 e ze zk zr)
        · right
          refine ⟨r, Nat.le_refl _, by omega, ⟨h1, z2⟩, fun t' h1 h2 => by omega, ?_⟩
          simp (disch := omega) only [lI, nI_add, pk_mul, nI_leI, nI_ltI, nI_eq, ck_n, nm_n, nI_clamp, Option.bind_some, if_pos, if_neg, bk_n0, bk_n1, nI_sub, upd_s, mi_e, mi_ne, mi_ne2, mi_lt, mi_le, mi_nle, mi_nlt, mi_s, bt_shrE, bit_e, true_and, and_true, if_true, if_false, ne_eq, not_true_eq_false, not_false_eq_true, Bool.false_eq_true, Bool.true_eq_false, reduceCtorEq, h0, hbs r (by omega), z1]
      · simp (disch := omega) only [lI, nI_add, pk_mul, nI_leI, nI_ltI, nI_eq, ck_n, nm_n, nI_clamp, Option.bind_some, if_pos, if_neg, bk_n0, bk_n1, nI_sub, upd_s, mi_e, mi_ne, mi_ne2, mi_lt, mi_le, mi_nle, mi_nlt, mi_s, bt_shrE, bit_e, true_and, and_true, if_true, if_false, ne_eq, not_true_eq_false, not_false_eq_true, Bool.false_eq_true, Bool.true_eq_false, reduceCtorEq, h0, hbs r (by omega)]
        exact go (fun h => h1 h.1)
/-- from t + L on both look for the same cycle; the reads noted may hold those of operation i itself -/
theorem resC_n {B : Nat} (hB : BV B) {O : OT} {L T R : Nat → Nat} {K : KT} {U : Nat → Nat} {N i t : Nat} {ki tg fi se oc mopn lat mlat op r_co bs hr lw lr : Nat → Int32} (hL : LL L lat mlat) (hO : OL O N ki tg fi se oc mopn) (hi : i < N) (h0 : r_co 0 = nI B) (hU : UU B K U) (hbs : ∀ c, c < 64 → bs c = nI (U c)) (hhr : HRD O i R hr) (hlw : ∀ k, k < 8 → MXL i (fun e => kdO O e ≠ 4 ∧ tgO O e = k) R (lw k)) (hlr : ∀ k, k < 8 → MXL (i + 1) (fun e => RRO O e k = true) T (lr k)) (ht : t < 64) (hTi : T i = t) : (f_Pl_resultCycle lat r_co op ki tg bs hr lw lr (nI i) (nI t) = some mi ∧ ∀ r, t + L (unO O i) ≤ r → r < 64 → ¬ (U r < B ∧ ∀ e, e < i → C2 O T R i r e)) ∨ ∃ r1, t + L (unO O i) ≤ r1 ∧ r1 < 64 ∧ (U r1 < B ∧ ∀ e, e < i → C2 O T R i r1 e) ∧ (∀ r, t + L (unO O i) ≤ r → r < r1 → ¬ (U r < B ∧ ∀ e, e < i → C2 O T R i r e)) ∧ f_Pl_resultCycle lat r_co op ki tg bs hr lw lr (nI i) (nI t) = some (nI r1) := by
  have hu := unO_lt O i
  obtain ⟨l1, l2, l3, l4⟩ := hL (unO O i) hu
  obtain ⟨a1, a2, a3, a4, a5, b1, b2, b3, b4, b5, k1, k2, k3, k4, _⟩ := OL_at hO hi
  obtain ⟨w, hw, q1, q2⟩ := hlw (tgO O i) k2
  obtain ⟨v, hv, p1, p2⟩ := hlr (tgO O i) k2
  have hps : pr w + nI 1 = nI w := pr_s w
  have key : ∀ E, E = max (t + L (unO O i)) (max w (v - 1)) → f_Pl_resultCycle lat r_co op ki tg bs hr lw lr (nI i) (nI t) = f_Pl_resultCycle_50 5000 lat r_co op ki tg bs hr lw lr (nI E) := fun E hE => by
    unfold f_Pl_resultCycle
    rw [target_n hO hi, unit_n hO hi]
    have e1 : (if lw (tgO O i) + nI 1 < lr (tgO O i) then lr (tgO O i) else lw (tgO O i) + nI 1) = nI (max w (v - 1)) := by
      rw [q1, p1, hps]
      rcases v with _ | v
      · have : ¬ nI w < pr 0 := by
          have := mi_nlt (a := w) (by omega)
          exact fun h => by rw [show pr 0 = mi from rfl, this] at h; exact h
        rw [if_neg this, Nat.max_eq_left (by omega)]
      · show (if nI w < nI v then nI v else nI w) = _
        by_cases h : w < v
        · rw [if_pos (nI_lt h (by omega)), Nat.max_eq_right (by omega)]; rfl
        · rw [if_neg (nI_nlt (by omega) (by omega)), Nat.max_eq_left (by omega)]
    simp (disch := omega) only [lI, Option.bind_some, nI_clamp, ck_n, e1, l1, nI_add, nm_n, nI_ltI]
    subst hE
    by_cases h : t + L (unO O i) < max w (v - 1)
    · rw [if_pos h, Nat.max_eq_right (a := t + L (unO O i)) (b := max w (v - 1)) (by omega)]
    · rw [if_neg h, Nat.max_eq_left (a := t + L (unO O i)) (b := max w (v - 1)) (by omega)]
  have iff : ∀ r, t + L (unO O i) ≤ r → ((∀ e, e < i → C2 O T R i r e) ↔ max (t + L (unO O i)) (max w (v - 1)) ≤ r ∧ ∀ e, e < i → kdO O e ≠ 4 → R e ≠ r) := fun r hr => by
    have hvr : v - 1 ≤ r ↔ ∀ e, e < i → RRO O e (tgO O i) = true → T e ≤ r := by
      rw [show (v - 1 ≤ r) ↔ v ≤ r + 1 by omega, p2]
      constructor
      · intro h e he hs; have := h e (by omega) hs; omega
      · intro h e he hs
        by_cases e3 : e = i
        · subst e3; omega
        · have := h e (by omega) hs; omega
    rw [Nat.max_le, Nat.max_le, q2 r, hvr]
    constructor
    · intro h
      exact ⟨⟨hr, fun e he hs => ((h e he).1 hs.1).2 hs.2, fun e he hs => (h e he).2 hs⟩, fun e he h4 => ((h e he).1 h4).1⟩
    · intro h e he
      exact ⟨fun h4 => ⟨h.2 e he h4, fun htg => h.1.2.1 e he ⟨h4, htg⟩⟩, fun hs => h.1.2.2 e he hs⟩
  rw [key _ rfl]
  rcases rc_lp hB (lat := lat) (op := op) (ki := ki) (tg := tg) (lw := lw) (lr := lr) h0 hU hbs hhr 64 (max (t + L (unO O i)) (max w (v - 1))) 5000 (by omega) (by omega) (by omega) with ⟨z1, z2⟩ | ⟨r1, z1, z2, z3, z4, z5⟩
  · refine Or.inl ⟨z1, fun r h1 h2 h3 => ?_⟩
    have := (iff r h1).mp h3.2
    exact z2 r this.1 h2 ⟨h3.1, this.2⟩
  · refine Or.inr ⟨r1, by omega, z2, ⟨z3.1, (iff r1 (by omega)).mpr ⟨z1, z3.2⟩⟩, fun r h1 h2 h3 => ?_, z5⟩
    have := (iff r h1).mp h3.2
    exact z4 r this.1 h2 ⟨h3.1, this.2⟩
