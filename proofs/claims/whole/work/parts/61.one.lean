-- ===== the table of moves that the operations make =====
abbrev ST2 : Type := KT × (Nat → Nat)
def layK (S : ST2) (c : Nat) (q : Nat × Nat × Int32 × Nat) : ST2 := (kset S.1 c (S.2 c) (some q), bump S.2 c)
def layA (O : OT) (i t : Nat) (S : ST2) : ST2 := if kdO O i = 3 then S else layK S t (0, srcO (aO O i), cfO O i (aO O i), 8 + unO O i)
def layB (O : OT) (i t : Nat) (S : ST2) : ST2 := layK (layA O i t S) t (0, srcO (xO O i), cfO O i (xO O i), 11 + kdO O i)
def layC (O : OT) (i r : Nat) (S : ST2) : ST2 := if kdO O i = 4 then S else layK S r (0, 8 + unO O i, nI 0, tgO O i)
def laidN (O : OT) (T R : Nat → Nat) : Nat → ST2
  | 0 => (knone, fun _ => 0)
  | i + 1 => layC O i (R i) (layB O i (T i) (laidN O T R i))
theorem laidN_congr {O : OT} {T R T' R' : Nat → Nat} : ∀ i, (∀ e, e < i → T' e = T e ∧ R' e = R e) → laidN O T' R' i = laidN O T R i
  | 0, _ => rfl
  | i + 1, h => by
    unfold laidN
    rw [laidN_congr i (fun e he => h e (by omega)), (h i (by omega)).1, (h i (by omega)).2]
def MLD (B : Nat) (S : ST2) (mc : Nat → Int32) : Prop := KM S.1 mc ∧ KV B S.1 ∧ UU B S.1 S.2
theorem layK_m {B : Nat} (hB : BV B) {S : ST2} {mo mc : Nat → Int32} (h : MLD B S mc) {c : Nat} (hc : c < 64) (hu : S.2 c < B) {s d : Nat} (hs : s ≤ 11) (hd : d ≤ 25) (k : Int32) : ∃ mc', f_Mo_lay mo mc (nI c) (nI s) k (nI d) = some mc' ∧ MLD B (layK S c (0, s, k, d)) mc' := by
  obtain ⟨mc', q1, q2, q3, q4⟩ := mlay_n (mo := mo) hB h.1 h.2.1 h.2.2 hc hu hs hd k
  exact ⟨mc', q1, q2, q3, q4⟩
theorem layA_U {O : OT} {i t : Nat} {S : ST2} : (layA O i t S).2 t + 1 = S.2 t + needO O i := by
  unfold layA needO
  by_cases h : kdO O i = 3
  · rw [if_pos h, if_pos h]
  · rw [if_neg h, if_neg h]
    show bump S.2 t t + 1 = _
    rw [bump_s]
theorem layA_n {O : OT} {i t c : Nat} {S : ST2} (h : c ≠ t) : (layA O i t S).2 c = S.2 c := by
  unfold layA
  split
  · rfl
  · exact bump_n _ h
theorem layB_U {O : OT} {i t : Nat} {S : ST2} : (layB O i t S).2 t = S.2 t + needO O i := by
  show bump (layA O i t S).2 t t = _
  rw [bump_s, layA_U]
theorem layB_n {O : OT} {i t c : Nat} {S : ST2} (h : c ≠ t) : (layB O i t S).2 c = S.2 c := by
  show bump (layA O i t S).2 t c = _
  rw [bump_n _ h, layA_n h]
theorem any_put {B : Nat} {S : ST2} {P : Nat × Int32 × Nat → Bool} {c c' : Nat} {q : Nat × Nat × Int32 × Nat} (hU : UU B S.1 S.2) (hB : B ≤ 4) (hc : c < 64) (hu : S.2 c < B) : anyM P (LM (layK S c q).1 c') 4 = (anyM P (LM S.1 c') 4 || (decide (c' = c) && P (q.2.1, q.2.2.1, q.2.2.2))) := by
  have hnone : S.1 c (S.2 c) = none := by
    have := (hU c hc).2 (S.2 c) (by omega)
    rw [decide_eq_false (by omega)] at this
    rcases hk : S.1 c (S.2 c) with _ | z
    · rfl
    · rw [hk] at this; cases this
  apply Bool.eq_iff_iff.mpr
  rw [Bool.or_eq_true, anyM_iff, anyM_iff, Bool.and_eq_true, decide_eq_true_eq]
  constructor
  · rintro ⟨b, p, h1, h2, h3⟩
    by_cases e : c' = c ∧ b = S.2 c
    · obtain ⟨rfl, rfl⟩ := e
      right
      have : LM (layK S c' q).1 c' (S.2 c') = some (q.2.1, q.2.2.1, q.2.2.2) := by
        show (match kset S.1 c' (S.2 c') (some q) c' (S.2 c') with | none => none | some (_, s, k, d) => some (s, k, d)) = _
        rw [kset_s]
      rw [this] at h2
      cases h2
      exact ⟨rfl, h3⟩
    · left
      refine ⟨b, p, h1, ?_, h3⟩
      have : LM (layK S c q).1 c' b = LM S.1 c' b := by
        show (match kset S.1 c (S.2 c) (some q) c' b with | none => none | some (_, s, k, d) => some (s, k, d)) = _
        rw [kset_n _ _ e]
        rfl
      rw [← this]; exact h2
  · rintro (⟨b, p, h1, h2, h3⟩ | ⟨rfl, h3⟩)
    · have e : ¬ (c' = c ∧ b = S.2 c) := fun e => by
        obtain ⟨rfl, rfl⟩ := e
        unfold LM at h2
        rw [hnone] at h2; cases h2
      refine ⟨b, p, h1, ?_, h3⟩
      show (match kset S.1 c (S.2 c) (some q) c' b with | none => none | some (_, s, k, d) => some (s, k, d)) = _
      rw [kset_n _ _ e]
      exact h2
    · refine ⟨S.2 c', (q.2.1, q.2.2.1, q.2.2.2), by omega, ?_, h3⟩
      show (match kset S.1 c' (S.2 c') (some q) c' (S.2 c') with | none => none | some (_, s, k, d) => some (s, k, d)) = _
      rw [kset_s]
/-- operand and trigger moves, as the model lays them -/
theorem lay118_n {B : Nat} (hB : BV B) {O : OT} {L : Nat → Nat} {N i t : Nat} {S : ST2} {ki tg fi se oc mopn lat mlat mo mlaid mopt mopr : Nat → Int32} (hL : LL L lat mlat) (hO : OL O N ki tg fi se oc mopn) (hi : i < N) (h : MLD B S mlaid) (ht : t < 64) (hr : S.2 t + needO O i ≤ B) : ∃ mlaid', f_Mo_layOperation_118 mo mlat mopn mlaid mopt mopr (nI i) (nI (kdO O i)) (nI (aO O i)) (nI (bO O i)) (nI t) (nI (11 + kdO O i)) = (if kdO O i = 4 then some (nI t, mlaid', mopt, mopr) else f_Mo_layOperation_203 5000 mo mlat mopn mlaid' mopt mopr (nI i) (nI (t + L (unO O i)))) ∧ MLD B (layB O i t S) mlaid' := by
  have hB4 := hB.2
  have hu := unO_lt O i
  obtain ⟨l1, l2, l3, l4⟩ := hL (unO O i) hu
  obtain ⟨a1, a2, a3, a4, a5, b1, b2, b3, b4, b5, k1, k2, k3, k4, _⟩ := OL_at hO hi
  have e160 : ∀ (m1 : Nat → Int32) (S1 : ST2), MLD B S1 m1 → S1.2 t < B → ∃ mlaid', f_Mo_layOperation_160 mo mlat mopn m1 mopt mopr (nI i) (nI (kdO O i)) (nI t) (nI (11 + kdO O i)) (nI (xO O i)) = (if kdO O i = 4 then some (nI t, mlaid', mopt, mopr) else f_Mo_layOperation_203 5000 mo mlat mopn mlaid' mopt mopr (nI i) (nI (t + L (unO O i)))) ∧ MLD B (layK S1 t (0, srcO (xO O i), cfO O i (xO O i), 11 + kdO O i)) mlaid' := fun m1 S1 hm hu1 => by
    have hx := xO_lt k3 k4
    obtain ⟨m2, q1, q2⟩ := layK_m (mo := mo) hB hm ht hu1 (srcO_le hx) (show 11 + kdO O i ≤ 25 by omega) (cfO O i (xO O i))
    refine ⟨m2, ?_, q2⟩
    unfold f_Mo_layOperation_160
    rw [sourceFor_n hx, mconstF_n hO hi hx]
    by_cases h4 : kdO O i = 4
    · simp (disch := omega) only [lI, nI_add, pk_mul, nI_leI, nI_ltI, nI_eq, ck_n, nm_n, nI_clamp, Option.bind_some, if_pos, if_neg, bk_n0, bk_n1, nI_sub, upd_s, mi_e, mi_ne, mi_ne2, mi_lt, mi_le, mi_nle, mi_nlt, mi_s, bt_shrE, bit_e, true_and, and_true, if_true, if_false, ne_eq, not_true_eq_false, not_false_eq_true, Bool.false_eq_true, Bool.true_eq_false, reduceCtorEq, q1, h4]
      rw [h4] at q1
      simp (disch := omega) only [lI, nI_add, pk_mul, nI_leI, nI_ltI, nI_eq, ck_n, nm_n, nI_clamp, Option.bind_some, if_pos, if_neg, bk_n0, bk_n1, nI_sub, upd_s, mi_e, mi_ne, mi_ne2, mi_lt, mi_le, mi_nle, mi_nlt, mi_s, bt_shrE, bit_e, true_and, and_true, if_true, if_false, ne_eq, not_true_eq_false, not_false_eq_true, Bool.false_eq_true, Bool.true_eq_false, reduceCtorEq, q1]
    · simp (disch := omega) only [lI, nI_add, pk_mul, nI_leI, nI_ltI, nI_eq, ck_n, nm_n, nI_clamp, Option.bind_some, if_pos, if_neg, bk_n0, bk_n1, nI_sub, upd_s, mi_e, mi_ne, mi_ne2, mi_lt, mi_le, mi_nle, mi_nlt, mi_s, bt_shrE, bit_e, true_and, and_true, if_true, if_false, ne_eq, not_true_eq_false, not_false_eq_true, Bool.false_eq_true, Bool.true_eq_false, reduceCtorEq, q1, munit_n hO hi, l2]
  unfold f_Mo_layOperation_118 f_Mo_layOperation_147
  by_cases h3 : kdO O i = 3
  · have hx : xO O i = aO O i := if_pos h3
    have hA : layA O i t S = S := if_pos h3
    have hn : needO O i = 1 := if_pos h3
    rw [hx] at e160
    obtain ⟨m2, q1, q2⟩ := e160 mlaid S h (by omega)
    refine ⟨m2, ?_, ?_⟩
    · rw [h3] at q1 ⊢
      simp (disch := omega) only [lI, nI_add, pk_mul, nI_leI, nI_ltI, nI_eq, ck_n, nm_n, nI_clamp, Option.bind_some, if_pos, if_neg, bk_n0, bk_n1, nI_sub, upd_s, mi_e, mi_ne, mi_ne2, mi_lt, mi_le, mi_nle, mi_nlt, mi_s, bt_shrE, bit_e, true_and, and_true, if_true, if_false, ne_eq, not_true_eq_false, not_false_eq_true, Bool.false_eq_true, Bool.true_eq_false, reduceCtorEq, q1]
    · unfold layB
      rw [hA, hx]; exact q2
  · have hx : xO O i = bO O i := if_neg h3
    have hA : layA O i t S = layK S t (0, srcO (aO O i), cfO O i (aO O i), 8 + unO O i) := if_neg h3
    have hn : needO O i = 2 := if_neg h3
    rw [hx] at e160
    obtain ⟨m1, p1, p2⟩ := layK_m (mo := mo) hB h ht (show S.2 t < B by omega) (srcO_le k3) (show 8 + unO O i ≤ 25 by omega) (cfO O i (aO O i))
    obtain ⟨m2, q1, q2⟩ := e160 m1 _ p2 (by show bump S.2 t t < B; rw [bump_s]; omega)
    refine ⟨m2, ?_, ?_⟩
    · simp (disch := omega) only [lI, nI_add, pk_mul, nI_leI, nI_ltI, nI_eq, ck_n, nm_n, nI_clamp, Option.bind_some, if_pos, if_neg, bk_n0, bk_n1, nI_sub, upd_s, mi_e, mi_ne, mi_ne2, mi_lt, mi_le, mi_nle, mi_nlt, mi_s, bt_shrE, bit_e, true_and, and_true, if_true, if_false, ne_eq, not_true_eq_false, not_false_eq_true, Bool.false_eq_true, Bool.true_eq_false, reduceCtorEq, sourceFor_n k3, mconstF_n hO hi k3, munit_n hO hi, p1, q1]
    · unfold layB
      rw [hA, hx]; exact q2
theorem lay58_n {O : OT} {N i t : Nat} {ki tg fi se oc mopn mlat mo mlaid mopt mopr : Nat → Int32} (hO : OL O N ki tg fi se oc mopn) (hi : i < N) (ht : t < 64) (v3 v4 : Int32) : f_Mo_layOperation_58 mo mlat mopn mlaid mopt mopr (nI i) (nI (kdO O i)) v3 v4 (nI t) = f_Mo_layOperation_118 mo mlat mopn mlaid (upd mopt i (nI t)) mopr (nI i) (nI (kdO O i)) v3 v4 (nI t) (nI (11 + kdO O i)) := by
  obtain ⟨a1, a2, a3, a4, a5, b1, b2, b3, b4, b5, k1, k2, k3, k4, _⟩ := OL_at hO hi
  unfold f_Mo_layOperation_58
  rcases (show kdO O i = 0 ∨ kdO O i = 1 ∨ kdO O i = 2 ∨ kdO O i = 3 ∨ kdO O i = 4 by omega) with e | e | e | e | e <;> rw [e] <;> simp (disch := omega) only [lI, nI_add, pk_mul, nI_leI, nI_ltI, nI_eq, ck_n, nm_n, nI_clamp, Option.bind_some, if_pos, if_neg, bk_n0, bk_n1, nI_sub, upd_s, mi_e, mi_ne, mi_ne2, mi_lt, mi_le, mi_nle, mi_nlt, mi_s, bt_shrE, bit_e, true_and, and_true, if_true, if_false, ne_eq, not_true_eq_false, not_false_eq_true, Bool.false_eq_true, Bool.true_eq_false, reduceCtorEq]
theorem lay226_n {B : Nat} (hB : BV B) {O : OT} {N i r : Nat} {S : ST2} {ki tg fi se oc mopn mlat mo mlaid mopt mopr : Nat → Int32} (hO : OL O N ki tg fi se oc mopn) (hi : i < N) (h : MLD B S mlaid) (hr : r < 64) (hu : S.2 r < B) (h4 : kdO O i ≠ 4) : ∃ mlaid', f_Mo_layOperation_226 mo mlat mopn mlaid mopt mopr (nI i) (nI r) = some (nI r, mlaid', mopt, upd mopr i (nI r)) ∧ MLD B (layC O i r S) mlaid' := by
  obtain ⟨a1, a2, a3, a4, a5, b1, b2, b3, b4, b5, k1, k2, k3, k4, _⟩ := OL_at hO hi
  have hun := unO_lt O i
  obtain ⟨m1, p1, p2⟩ := layK_m (mo := mo) hB h hr hu (show 8 + unO O i ≤ 11 by omega) (show tgO O i ≤ 25 by omega) (nI 0)
  refine ⟨m1, ?_, by unfold layC; rw [if_neg h4]; exact p2⟩
  unfold f_Mo_layOperation_226
  simp (disch := omega) only [lI, nI_add, pk_mul, nI_leI, nI_ltI, nI_eq, ck_n, nm_n, nI_clamp, Option.bind_some, if_pos, if_neg, bk_n0, bk_n1, nI_sub, upd_s, mi_e, mi_ne, mi_ne2, mi_lt, mi_le, mi_nle, mi_nlt, mi_s, bt_shrE, bit_e, true_and, and_true, if_true, if_false, ne_eq, not_true_eq_false, not_false_eq_true, Bool.false_eq_true, Bool.true_eq_false, reduceCtorEq, munit_n hO hi, b2, p1]
-- ===== what the planner notes =====
theorem note68_lp {O : OT} {i t : Nat} {op ki fi se bs rr lt tc : Nat → Int32} {y : Int32} (hy : ∀ k, k < 8 → bt y k = RRO O i k) (ht : t < 64) : ∀ (d k n : Nat) (lr : Nat → Int32), k + d = 8 → d < n → ∃ lr', f_Pl_noteTrigger_68 n op ki fi se bs rr lr lt tc (nI t) y (nI k) = some (bs, rr, lr', lt, tc) ∧ (∀ j, k ≤ j → j < 8 → lr' j = if RRO O i j = true then (if lr j < nI t then nI t else lr j) else lr j) ∧ ∀ j, j < k → lr' j = lr j
  | 0, k, n + 1, lr, hk, hn => ⟨lr, by rw [f_Pl_noteTrigger_68]; simp (disch := omega) only [lI, nI_add, pk_mul, nI_leI, nI_ltI, nI_eq, ck_n, nm_n, nI_clamp, Option.bind_some, if_pos, if_neg, bk_n0, bk_n1, nI_sub, upd_s, mi_e, mi_ne, mi_ne2, mi_lt, mi_le, mi_nle, mi_nlt, mi_s, bt_shrE, bit_e, true_and, and_true, if_true, if_false, ne_eq, not_true_eq_false, not_false_eq_true, Bool.false_eq_true, Bool.true_eq_false, reduceCtorEq], fun j h1 h2 => by omega, fun j _ => rfl⟩
  | d + 1, k, n + 1, lr, hk, hn => by
    rw [f_Pl_noteTrigger_68]
    unfold f_Pl_noteTrigger_102
    rcases hz : RRO O i k with _ | _
    · obtain ⟨lr', q1, q2, q3⟩ := note68_lp (op := op) (ki := ki) (fi := fi) (se := se) (bs := bs) (rr := rr) (lt := lt) (tc := tc) hy ht d (k + 1) n lr (by omega) (by omega)
      refine ⟨lr', ?_, fun j h1 h2 => ?_, fun j hj => q3 j (by omega)⟩
      · simp (disch := omega) only [lI, nI_add, pk_mul, nI_leI, nI_ltI, nI_eq, ck_n, nm_n, nI_clamp, Option.bind_some, if_pos, if_neg, bk_n0, bk_n1, nI_sub, upd_s, mi_e, mi_ne, mi_ne2, mi_lt, mi_le, mi_nle, mi_nlt, mi_s, bt_shrE, bit_e, true_and, and_true, if_true, if_false, ne_eq, not_true_eq_false, not_false_eq_true, Bool.false_eq_true, Bool.true_eq_false, reduceCtorEq, hy k (by omega), hz, q1]
      · by_cases e : j = k
        · subst e; rw [q3 j (by omega), hz]; rfl
        · exact q2 j (by omega) h2
    · obtain ⟨lr', q1, q2, q3⟩ := note68_lp (op := op) (ki := ki) (fi := fi) (se := se) (bs := bs) (rr := rr) (lt := lt) (tc := tc) hy ht d (k + 1) n (upd lr k (if lr k < nI t then nI t else lr k)) (by omega) (by omega)
      refine ⟨lr', ?_, fun j h1 h2 => ?_, fun j hj => by rw [q3 j (by omega), upd_n (by omega)]⟩
      · simp (disch := omega) only [lI, nI_leI, if_neg, bt_shrE, hy k (by omega), hz, Bool.true_eq_false, not_false_eq_true, nI_clamp, ck_n, nm_n, nI_add]
        exact q1
      · by_cases e : j = k
        · subst e; rw [q3 j (by omega), upd_s, hz]; rfl
        · rw [q2 j (by omega) h2, upd_n e]
theorem noteT_n {O : OT} {N i t : Nat} {op ki tg fi se oc mopn bs rr lr lt tc : Nat → Int32} (hO : OL O N ki tg fi se oc mopn) (hi : i < N) (ht : t < 64) {u : Nat} (hu : bs t = nI u) (hu4 : u ≤ 4) : ∃ y lr', f_Pl_noteTrigger op ki fi se bs rr lr lt tc (nI i) (nI t) = some (upd bs t (nI (u + needO O i)), upd rr t (rr t ||| y), lr', upd lt (unO O i) (nI t), upd tc i (nI t)) ∧ (∀ k, k < 8 → bt y k = RRO O i k) ∧ (∀ k, 8 ≤ k → k < 32 → bt y k = false) ∧ ∀ j, j < 8 → lr' j = if RRO O i j = true then (if lr j < nI t then nI t else lr j) else lr j := by
  obtain ⟨a1, a2, a3, a4, a5, b1, b2, b3, b4, b5, k1, k2, k3, k4, _⟩ := OL_at hO hi
  have hun := unO_lt O i
  obtain ⟨y, y1, y2, y3⟩ := regsR_n (op := op) hO hi
  obtain ⟨lr', q1, q2, q3⟩ := note68_lp (op := op) (ki := ki) (fi := fi) (se := se) (bs := upd bs t (nI (u + needO O i))) (rr := upd rr t (rr t ||| y)) (lt := upd lt (unO O i) (nI t)) (tc := upd tc i (nI t)) y2 ht 8 0 5000 lr (by omega) (by omega)
  refine ⟨y, lr', ?_, y2, y3, fun j hj => q2 j (by omega) hj⟩
  unfold f_Pl_noteTrigger f_Pl_noteTrigger_41
  rw [y1, isLoad_n hO hi]
  unfold needO at q1 ⊢
  by_cases h3 : kdO O i = 3
  · rw [if_pos h3] at q1 ⊢
    simp (disch := omega) only [lI, nI_add, pk_mul, nI_leI, nI_ltI, nI_eq, ck_n, nm_n, nI_clamp, Option.bind_some, if_pos, if_neg, bk_n0, bk_n1, nI_sub, upd_s, mi_e, mi_ne, mi_ne2, mi_lt, mi_le, mi_nle, mi_nlt, mi_s, bt_shrE, bit_e, true_and, and_true, if_true, if_false, ne_eq, not_true_eq_false, not_false_eq_true, Bool.false_eq_true, Bool.true_eq_false, reduceCtorEq, h3, beq_self_eq_true, b2i_0, hu, unit_n hO hi, q1]
  · rw [if_neg h3] at q1 ⊢
    simp (disch := omega) only [lI, nI_add, pk_mul, nI_leI, nI_ltI, nI_eq, ck_n, nm_n, nI_clamp, Option.bind_some, if_pos, if_neg, bk_n0, bk_n1, nI_sub, upd_s, mi_e, mi_ne, mi_ne2, mi_lt, mi_le, mi_nle, mi_nlt, mi_s, bt_shrE, bit_e, true_and, and_true, if_true, if_false, ne_eq, not_true_eq_false, not_false_eq_true, Bool.false_eq_true, Bool.true_eq_false, reduceCtorEq, beq_false_of_ne h3, b2i_0, hu, unit_n hO hi, q1]
theorem noteR_n {O : OT} {N i r : Nat} {op ki tg fi se oc mopn bs hr lw lm rc : Nat → Int32} (hO : OL O N ki tg fi se oc mopn) (hi : i < N) (hr64 : r < 64) {u : Nat} (hu : bs r = nI u) (hu4 : u ≤ 4) : f_Pl_noteResult op ki tg bs hr lw lm rc (nI i) (nI r) = some (upd bs r (nI (u + 1)), upd hr r (nI 1), upd lw (tgO O i) (nI r), upd lm (unO O i) (nI r), upd rc i (nI r)) := by
  obtain ⟨a1, a2, a3, a4, a5, b1, b2, b3, b4, b5, k1, k2, k3, k4, _⟩ := OL_at hO hi
  have hun := unO_lt O i
  unfold f_Pl_noteResult
  rw [target_n hO hi, unit_n hO hi]
  simp (disch := omega) only [lI, nI_add, pk_mul, nI_leI, nI_ltI, nI_eq, ck_n, nm_n, nI_clamp, Option.bind_some, if_pos, if_neg, bk_n0, bk_n1, nI_sub, upd_s, mi_e, mi_ne, mi_ne2, mi_lt, mi_le, mi_nle, mi_nlt, mi_s, bt_shrE, bit_e, true_and, and_true, if_true, if_false, ne_eq, not_true_eq_false, not_false_eq_true, Bool.false_eq_true, Bool.true_eq_false, reduceCtorEq, hu]
