-- ===== an operation =====
abbrev OT : Type := Nat → Nat × Nat × Nat × Nat × Int32
def kdO (O : OT) (i : Nat) : Nat := (O i).1
def tgO (O : OT) (i : Nat) : Nat := (O i).2.1
def aO (O : OT) (i : Nat) : Nat := (O i).2.2.1
def bO (O : OT) (i : Nat) : Nat := (O i).2.2.2.1
def cO (O : OT) (i : Nat) : Int32 := (O i).2.2.2.2
def unO (O : OT) (i : Nat) : Nat := if kdO O i < 2 then 0 else if kdO O i = 2 then 1 else 2
def RRO (O : OT) (i k : Nat) : Bool := aO O i == k || (!(kdO O i == 3) && bO O i == k)
def srcO (a : Nat) : Nat := if a = 8 then 11 else a
def cfO (O : OT) (i a : Nat) : Int32 := if a = 8 then cO O i else nI 0
def xO (O : OT) (i : Nat) : Nat := if kdO O i = 3 then aO O i else bO O i
theorem unO_lt (O : OT) (i : Nat) : unO O i < 3 := by
  unfold unO; split
  · omega
  · split <;> omega
theorem srcO_le {a : Nat} (h : a < 9) : srcO a ≤ 11 := by unfold srcO; split <;> omega
theorem OL_at {O : OT} {n : Nat} {ki tg fi se oc mopn : Nat → Int32} (h : OL O n ki tg fi se oc mopn) {i : Nat} (hi : i < n) : ki i = nI (kdO O i) ∧ tg i = nI (tgO O i) ∧ fi i = nI (aO O i) ∧ se i = nI (bO O i) ∧ oc i = cO O i ∧ mopn (5 * i) = nI (kdO O i) ∧ mopn (5 * i + 1) = nI (tgO O i) ∧ mopn (5 * i + 2) = nI (aO O i) ∧ mopn (5 * i + 3) = nI (bO O i) ∧ mopn (5 * i + 4) = cO O i ∧ kdO O i < 5 ∧ tgO O i < 8 ∧ aO O i < 9 ∧ bO O i < 9 ∧ i < 20 := by
  obtain ⟨a1, a2, a3, a4, a5, b1, b2, b3, b4, b5, k1, k2, k3, k4⟩ := h.2 i hi
  have := h.1
  exact ⟨a1, a2, a3, a4, a5, b1, b2, b3, b4, b5, k1, k2, k3, k4, by omega⟩
theorem unit_n {O : OT} {n : Nat} {op ki tg fi se oc mopn : Nat → Int32} (h : OL O n ki tg fi se oc mopn) {i : Nat} (hi : i < n) : f_Op_unit op ki (nI i) = some (nI (unO O i)) := by
  obtain ⟨a1, a2, a3, a4, a5, b1, b2, b3, b4, b5, k1, k2, k3, k4, h20⟩ := OL_at h hi
  unfold f_Op_unit unO
  by_cases e1 : kdO O i < 2
  · simp (disch := omega) only [lI, nI_add, pk_mul, nI_leI, nI_ltI, nI_eq, ck_n, nm_n, nI_clamp, Option.bind_some, if_pos, if_neg, bk_n0, bk_n1, nI_sub, upd_s, mi_e, mi_ne, mi_ne2, mi_lt, mi_le, mi_nle, mi_nlt, mi_s, bt_shrE, bit_e, true_and, and_true, if_true, if_false, ne_eq, not_true_eq_false, not_false_eq_true, Bool.false_eq_true, Bool.true_eq_false, reduceCtorEq, a1]
  · by_cases e2 : kdO O i = 2
    · simp (disch := omega) only [lI, nI_add, pk_mul, nI_leI, nI_ltI, nI_eq, ck_n, nm_n, nI_clamp, Option.bind_some, if_pos, if_neg, bk_n0, bk_n1, nI_sub, upd_s, mi_e, mi_ne, mi_ne2, mi_lt, mi_le, mi_nle, mi_nlt, mi_s, bt_shrE, bit_e, true_and, and_true, if_true, if_false, ne_eq, not_true_eq_false, not_false_eq_true, Bool.false_eq_true, Bool.true_eq_false, reduceCtorEq, a1]
    · simp (disch := omega) only [lI, nI_add, pk_mul, nI_leI, nI_ltI, nI_eq, ck_n, nm_n, nI_clamp, Option.bind_some, if_pos, if_neg, bk_n0, bk_n1, nI_sub, upd_s, mi_e, mi_ne, mi_ne2, mi_lt, mi_le, mi_nle, mi_nlt, mi_s, bt_shrE, bit_e, true_and, and_true, if_true, if_false, ne_eq, not_true_eq_false, not_false_eq_true, Bool.false_eq_true, Bool.true_eq_false, reduceCtorEq, a1]
theorem munit_n {O : OT} {n : Nat} {mo ki tg fi se oc mopn : Nat → Int32} (h : OL O n ki tg fi se oc mopn) {i : Nat} (hi : i < n) : f_Mo_unitFor mo mopn (nI i) = some (nI (unO O i)) := by
  obtain ⟨a1, a2, a3, a4, a5, b1, b2, b3, b4, b5, k1, k2, k3, k4, h20⟩ := OL_at h hi
  unfold f_Mo_unitFor unO
  by_cases e1 : kdO O i < 2
  · simp (disch := omega) only [lI, nI_add, pk_mul, nI_leI, nI_ltI, nI_eq, ck_n, nm_n, nI_clamp, Option.bind_some, if_pos, if_neg, bk_n0, bk_n1, nI_sub, upd_s, mi_e, mi_ne, mi_ne2, mi_lt, mi_le, mi_nle, mi_nlt, mi_s, bt_shrE, bit_e, true_and, and_true, if_true, if_false, ne_eq, not_true_eq_false, not_false_eq_true, Bool.false_eq_true, Bool.true_eq_false, reduceCtorEq, b1]
  · by_cases e2 : kdO O i = 2
    · simp (disch := omega) only [lI, nI_add, pk_mul, nI_leI, nI_ltI, nI_eq, ck_n, nm_n, nI_clamp, Option.bind_some, if_pos, if_neg, bk_n0, bk_n1, nI_sub, upd_s, mi_e, mi_ne, mi_ne2, mi_lt, mi_le, mi_nle, mi_nlt, mi_s, bt_shrE, bit_e, true_and, and_true, if_true, if_false, ne_eq, not_true_eq_false, not_false_eq_true, Bool.false_eq_true, Bool.true_eq_false, reduceCtorEq, b1]
    · simp (disch := omega) only [lI, nI_add, pk_mul, nI_leI, nI_ltI, nI_eq, ck_n, nm_n, nI_clamp, Option.bind_some, if_pos, if_neg, bk_n0, bk_n1, nI_sub, upd_s, mi_e, mi_ne, mi_ne2, mi_lt, mi_le, mi_nle, mi_nlt, mi_s, bt_shrE, bit_e, true_and, and_true, if_true, if_false, ne_eq, not_true_eq_false, not_false_eq_true, Bool.false_eq_true, Bool.true_eq_false, reduceCtorEq, b1]
theorem isLoad_n {O : OT} {n : Nat} {op ki tg fi se oc mopn : Nat → Int32} (h : OL O n ki tg fi se oc mopn) {i : Nat} (hi : i < n) : f_Op_isLoad op ki (nI i) = some (b2i (kdO O i == 3)) := by
  obtain ⟨a1, a2, a3, a4, a5, b1, b2, b3, b4, b5, k1, k2, k3, k4, h20⟩ := OL_at h hi
  unfold f_Op_isLoad
  by_cases e1 : kdO O i = 3
  · simp (disch := omega) only [lI, nI_add, pk_mul, nI_leI, nI_ltI, nI_eq, ck_n, nm_n, nI_clamp, Option.bind_some, if_pos, if_neg, bk_n0, bk_n1, nI_sub, upd_s, mi_e, mi_ne, mi_ne2, mi_lt, mi_le, mi_nle, mi_nlt, mi_s, bt_shrE, bit_e, true_and, and_true, if_true, if_false, ne_eq, not_true_eq_false, not_false_eq_true, Bool.false_eq_true, Bool.true_eq_false, reduceCtorEq, a1]; rw [e1]; rfl
  · simp (disch := omega) only [lI, nI_add, pk_mul, nI_leI, nI_ltI, nI_eq, ck_n, nm_n, nI_clamp, Option.bind_some, if_pos, if_neg, bk_n0, bk_n1, nI_sub, upd_s, mi_e, mi_ne, mi_ne2, mi_lt, mi_le, mi_nle, mi_nlt, mi_s, bt_shrE, bit_e, true_and, and_true, if_true, if_false, ne_eq, not_true_eq_false, not_false_eq_true, Bool.false_eq_true, Bool.true_eq_false, reduceCtorEq, a1]; rw [beq_false_of_ne e1]; rfl
theorem isStore_n {O : OT} {n : Nat} {op ki tg fi se oc mopn : Nat → Int32} (h : OL O n ki tg fi se oc mopn) {i : Nat} (hi : i < n) : f_Op_isStore op ki (nI i) = some (b2i (kdO O i == 4)) := by
  obtain ⟨a1, a2, a3, a4, a5, b1, b2, b3, b4, b5, k1, k2, k3, k4, h20⟩ := OL_at h hi
  unfold f_Op_isStore
  by_cases e1 : kdO O i = 4
  · simp (disch := omega) only [lI, nI_add, pk_mul, nI_leI, nI_ltI, nI_eq, ck_n, nm_n, nI_clamp, Option.bind_some, if_pos, if_neg, bk_n0, bk_n1, nI_sub, upd_s, mi_e, mi_ne, mi_ne2, mi_lt, mi_le, mi_nle, mi_nlt, mi_s, bt_shrE, bit_e, true_and, and_true, if_true, if_false, ne_eq, not_true_eq_false, not_false_eq_true, Bool.false_eq_true, Bool.true_eq_false, reduceCtorEq, a1]; rw [e1]; rfl
  · simp (disch := omega) only [lI, nI_add, pk_mul, nI_leI, nI_ltI, nI_eq, ck_n, nm_n, nI_clamp, Option.bind_some, if_pos, if_neg, bk_n0, bk_n1, nI_sub, upd_s, mi_e, mi_ne, mi_ne2, mi_lt, mi_le, mi_nle, mi_nlt, mi_s, bt_shrE, bit_e, true_and, and_true, if_true, if_false, ne_eq, not_true_eq_false, not_false_eq_true, Bool.false_eq_true, Bool.true_eq_false, reduceCtorEq, a1]; rw [beq_false_of_ne e1]; rfl
theorem writes_n {O : OT} {n : Nat} {mo ki tg fi se oc mopn : Nat → Int32} (h : OL O n ki tg fi se oc mopn) {i : Nat} (hi : i < n) : f_Mo_writes mo mopn (nI i) = some (b2i (!(kdO O i == 4))) := by
  obtain ⟨a1, a2, a3, a4, a5, b1, b2, b3, b4, b5, k1, k2, k3, k4, h20⟩ := OL_at h hi
  unfold f_Mo_writes
  by_cases e1 : kdO O i = 4
  · simp (disch := omega) only [lI, nI_add, pk_mul, nI_leI, nI_ltI, nI_eq, ck_n, nm_n, nI_clamp, Option.bind_some, if_pos, if_neg, bk_n0, bk_n1, nI_sub, upd_s, mi_e, mi_ne, mi_ne2, mi_lt, mi_le, mi_nle, mi_nlt, mi_s, bt_shrE, bit_e, true_and, and_true, if_true, if_false, ne_eq, not_true_eq_false, not_false_eq_true, Bool.false_eq_true, Bool.true_eq_false, reduceCtorEq, b1]; rw [e1]; rfl
  · simp (disch := omega) only [lI, nI_add, pk_mul, nI_leI, nI_ltI, nI_eq, ck_n, nm_n, nI_clamp, Option.bind_some, if_pos, if_neg, bk_n0, bk_n1, nI_sub, upd_s, mi_e, mi_ne, mi_ne2, mi_lt, mi_le, mi_nle, mi_nlt, mi_s, bt_shrE, bit_e, true_and, and_true, if_true, if_false, ne_eq, not_true_eq_false, not_false_eq_true, Bool.false_eq_true, Bool.true_eq_false, reduceCtorEq, b1]; rw [beq_false_of_ne e1]; rfl
theorem target_n {O : OT} {n : Nat} {op ki tg fi se oc mopn : Nat → Int32} (h : OL O n ki tg fi se oc mopn) {i : Nat} (hi : i < n) : f_Op_target op tg (nI i) = some (nI (tgO O i)) := by
  obtain ⟨a1, a2, a3, a4, a5, b1, b2, b3, b4, b5, k1, k2, k3, k4, h20⟩ := OL_at h hi
  unfold f_Op_target
  simp (disch := omega) only [lI, nI_add, pk_mul, nI_leI, nI_ltI, nI_eq, ck_n, nm_n, nI_clamp, Option.bind_some, if_pos, if_neg, bk_n0, bk_n1, nI_sub, upd_s, mi_e, mi_ne, mi_ne2, mi_lt, mi_le, mi_nle, mi_nlt, mi_s, bt_shrE, bit_e, true_and, and_true, if_true, if_false, ne_eq, not_true_eq_false, not_false_eq_true, Bool.false_eq_true, Bool.true_eq_false, reduceCtorEq, a2]
theorem trigger_n {O : OT} {n : Nat} {op ki tg fi se oc mopn : Nat → Int32} (h : OL O n ki tg fi se oc mopn) {i : Nat} (hi : i < n) : f_Op_trigger op ki (nI i) = some (nI (11 + kdO O i)) := by
  obtain ⟨a1, a2, a3, a4, a5, b1, b2, b3, b4, b5, k1, k2, k3, k4, h20⟩ := OL_at h hi
  unfold f_Op_trigger
  simp (disch := omega) only [lI, nI_add, pk_mul, nI_leI, nI_ltI, nI_eq, ck_n, nm_n, nI_clamp, Option.bind_some, if_pos, if_neg, bk_n0, bk_n1, nI_sub, upd_s, mi_e, mi_ne, mi_ne2, mi_lt, mi_le, mi_nle, mi_nlt, mi_s, bt_shrE, bit_e, true_and, and_true, if_true, if_false, ne_eq, not_true_eq_false, not_false_eq_true, Bool.false_eq_true, Bool.true_eq_false, reduceCtorEq, a1]
theorem sourceOf_n {a : Nat} (h : a < 9) : f_Op_sourceOf (nI a) = some (nI (srcO a)) := by
  unfold f_Op_sourceOf srcO
  by_cases e : a = 8
  · simp (disch := omega) only [lI, nI_add, pk_mul, nI_leI, nI_ltI, nI_eq, ck_n, nm_n, nI_clamp, Option.bind_some, if_pos, if_neg, bk_n0, bk_n1, nI_sub, upd_s, mi_e, mi_ne, mi_ne2, mi_lt, mi_le, mi_nle, mi_nlt, mi_s, bt_shrE, bit_e, true_and, and_true, if_true, if_false, ne_eq, not_true_eq_false, not_false_eq_true, Bool.false_eq_true, Bool.true_eq_false, reduceCtorEq]
  · simp (disch := omega) only [lI, nI_add, pk_mul, nI_leI, nI_ltI, nI_eq, ck_n, nm_n, nI_clamp, Option.bind_some, if_pos, if_neg, bk_n0, bk_n1, nI_sub, upd_s, mi_e, mi_ne, mi_ne2, mi_lt, mi_le, mi_nle, mi_nlt, mi_s, bt_shrE, bit_e, true_and, and_true, if_true, if_false, ne_eq, not_true_eq_false, not_false_eq_true, Bool.false_eq_true, Bool.true_eq_false, reduceCtorEq]
theorem sourceFor_n {a : Nat} (h : a < 9) : f_Mo_sourceFor (nI a) = some (nI (srcO a)) := sourceOf_n h
theorem firstS_n {O : OT} {n : Nat} {op ki tg fi se oc mopn : Nat → Int32} (h : OL O n ki tg fi se oc mopn) {i : Nat} (hi : i < n) : f_Op_firstSource op fi (nI i) = some (nI (srcO (aO O i))) := by
  obtain ⟨a1, a2, a3, a4, a5, b1, b2, b3, b4, b5, k1, k2, k3, k4, h20⟩ := OL_at h hi
  unfold f_Op_firstSource
  simp (disch := omega) only [lI, nI_add, pk_mul, nI_leI, nI_ltI, nI_eq, ck_n, nm_n, nI_clamp, Option.bind_some, if_pos, if_neg, bk_n0, bk_n1, nI_sub, upd_s, mi_e, mi_ne, mi_ne2, mi_lt, mi_le, mi_nle, mi_nlt, mi_s, bt_shrE, bit_e, true_and, and_true, if_true, if_false, ne_eq, not_true_eq_false, not_false_eq_true, Bool.false_eq_true, Bool.true_eq_false, reduceCtorEq, a3, sourceOf_n k3]
theorem xO_lt {O : OT} {i : Nat} (h1 : aO O i < 9) (h2 : bO O i < 9) : xO O i < 9 := by unfold xO; split <;> assumption
theorem trigS_n {O : OT} {n : Nat} {op ki tg fi se oc mopn : Nat → Int32} (h : OL O n ki tg fi se oc mopn) {i : Nat} (hi : i < n) : f_Op_triggerSource op ki fi se (nI i) = some (nI (srcO (xO O i))) := by
  obtain ⟨a1, a2, a3, a4, a5, b1, b2, b3, b4, b5, k1, k2, k3, k4, h20⟩ := OL_at h hi
  unfold f_Op_triggerSource xO
  rw [isLoad_n h hi]
  by_cases e : kdO O i = 3
  · rw [e]
    simp (disch := omega) only [lI, nI_add, pk_mul, nI_leI, nI_ltI, nI_eq, ck_n, nm_n, nI_clamp, Option.bind_some, if_pos, if_neg, bk_n0, bk_n1, nI_sub, upd_s, mi_e, mi_ne, mi_ne2, mi_lt, mi_le, mi_nle, mi_nlt, mi_s, bt_shrE, bit_e, true_and, and_true, if_true, if_false, ne_eq, not_true_eq_false, not_false_eq_true, Bool.false_eq_true, Bool.true_eq_false, reduceCtorEq, b2i_0, beq_self_eq_true, a3, sourceOf_n k3]
  · rw [beq_false_of_ne e]
    simp (disch := omega) only [lI, nI_add, pk_mul, nI_leI, nI_ltI, nI_eq, ck_n, nm_n, nI_clamp, Option.bind_some, if_pos, if_neg, bk_n0, bk_n1, nI_sub, upd_s, mi_e, mi_ne, mi_ne2, mi_lt, mi_le, mi_nle, mi_nlt, mi_s, bt_shrE, bit_e, true_and, and_true, if_true, if_false, ne_eq, not_true_eq_false, not_false_eq_true, Bool.false_eq_true, Bool.true_eq_false, reduceCtorEq, b2i_0, a4, sourceOf_n k4]
theorem constF_n {O : OT} {n : Nat} {op ki tg fi se oc mopn : Nat → Int32} (h : OL O n ki tg fi se oc mopn) {i : Nat} (hi : i < n) {a : Nat} (ha : a < 9) : f_Op_constantFor op oc (nI i) (nI (srcO a)) = some (cfO O i a) := by
  obtain ⟨a1, a2, a3, a4, a5, b1, b2, b3, b4, b5, k1, k2, k3, k4, h20⟩ := OL_at h hi
  unfold f_Op_constantFor srcO cfO
  by_cases e : a = 8
  · simp (disch := omega) only [lI, nI_add, pk_mul, nI_leI, nI_ltI, nI_eq, ck_n, nm_n, nI_clamp, Option.bind_some, if_pos, if_neg, bk_n0, bk_n1, nI_sub, upd_s, mi_e, mi_ne, mi_ne2, mi_lt, mi_le, mi_nle, mi_nlt, mi_s, bt_shrE, bit_e, true_and, and_true, if_true, if_false, ne_eq, not_true_eq_false, not_false_eq_true, Bool.false_eq_true, Bool.true_eq_false, reduceCtorEq, e, a5]
  · simp (disch := omega) only [lI, nI_add, pk_mul, nI_leI, nI_ltI, nI_eq, ck_n, nm_n, nI_clamp, Option.bind_some, if_pos, if_neg, bk_n0, bk_n1, nI_sub, upd_s, mi_e, mi_ne, mi_ne2, mi_lt, mi_le, mi_nle, mi_nlt, mi_s, bt_shrE, bit_e, true_and, and_true, if_true, if_false, ne_eq, not_true_eq_false, not_false_eq_true, Bool.false_eq_true, Bool.true_eq_false, reduceCtorEq, e]
theorem mconstF_n {O : OT} {n : Nat} {mo ki tg fi se oc mopn : Nat → Int32} (h : OL O n ki tg fi se oc mopn) {i : Nat} (hi : i < n) {a : Nat} (ha : a < 9) : f_Mo_constantFor mo mopn (nI i) (nI a) = some (cfO O i a) := by
  obtain ⟨a1, a2, a3, a4, a5, b1, b2, b3, b4, b5, k1, k2, k3, k4, h20⟩ := OL_at h hi
  unfold f_Mo_constantFor cfO
  by_cases e : a = 8
  · simp (disch := omega) only [lI, nI_add, pk_mul, nI_leI, nI_ltI, nI_eq, ck_n, nm_n, nI_clamp, Option.bind_some, if_pos, if_neg, bk_n0, bk_n1, nI_sub, upd_s, mi_e, mi_ne, mi_ne2, mi_lt, mi_le, mi_nle, mi_nlt, mi_s, bt_shrE, bit_e, true_and, and_true, if_true, if_false, ne_eq, not_true_eq_false, not_false_eq_true, Bool.false_eq_true, Bool.true_eq_false, reduceCtorEq, b5]
  · simp (disch := omega) only [lI, nI_add, pk_mul, nI_leI, nI_ltI, nI_eq, ck_n, nm_n, nI_clamp, Option.bind_some, if_pos, if_neg, bk_n0, bk_n1, nI_sub, upd_s, mi_e, mi_ne, mi_ne2, mi_lt, mi_le, mi_nle, mi_nlt, mi_s, bt_shrE, bit_e, true_and, and_true, if_true, if_false, ne_eq, not_true_eq_false, not_false_eq_true, Bool.false_eq_true, Bool.true_eq_false, reduceCtorEq]
theorem regBit_n {s : Nat} (hs : s ≤ 11) : ∃ y, f_Op_registerBit (nI s) = some y ∧ ∀ k, k < 32 → bt y k = (s == k && decide (k < 8)) := by
  unfold f_Op_registerBit
  by_cases h8 : s < 8
  · simp (disch := omega) only [lI, nI_add, pk_mul, nI_leI, nI_ltI, nI_eq, ck_n, nm_n, nI_clamp, Option.bind_some, if_pos, if_neg, bk_n0, bk_n1, nI_sub, upd_s, mi_e, mi_ne, mi_ne2, mi_lt, mi_le, mi_nle, mi_nlt, mi_s, bt_shrE, bit_e, true_and, and_true, if_true, if_false, ne_eq, not_true_eq_false, not_false_eq_true, Bool.false_eq_true, Bool.true_eq_false, reduceCtorEq]
    refine ⟨_, rfl, fun k hk => ?_⟩
    rw [bt_bit (by omega)]
    by_cases e : k = s
    · subst e; simp [h8]
    · have : ¬ s = k := fun q => e q.symm
      simp [e, beq_false_of_ne this]
  · simp (disch := omega) only [lI, nI_add, pk_mul, nI_leI, nI_ltI, nI_eq, ck_n, nm_n, nI_clamp, Option.bind_some, if_pos, if_neg, bk_n0, bk_n1, nI_sub, upd_s, mi_e, mi_ne, mi_ne2, mi_lt, mi_le, mi_nle, mi_nlt, mi_s, bt_shrE, bit_e, true_and, and_true, if_true, if_false, ne_eq, not_true_eq_false, not_false_eq_true, Bool.false_eq_true, Bool.true_eq_false, reduceCtorEq]
    refine ⟨_, rfl, fun k hk => ?_⟩
    have hz : bt (nI 0) k = false := bt_zero k
    rw [hz]
    by_cases e : s = k
    · have : ¬ k < 8 := by omega
      simp [this]
    · simp [beq_false_of_ne e]
theorem srcO_eq {a k : Nat} (h : k < 8) : (srcO a == k) = (a == k) := by
  unfold srcO
  by_cases e : a = 8
  · have h1 : ¬ 11 = k := by omega
    have h2 : ¬ 8 = k := by omega
    rw [if_pos e, e, beq_false_of_ne h1, beq_false_of_ne h2]
  · rw [if_neg e]
theorem regsR_n {O : OT} {n : Nat} {op ki tg fi se oc mopn : Nat → Int32} (h : OL O n ki tg fi se oc mopn) {i : Nat} (hi : i < n) : ∃ y, f_Op_registersRead op ki fi se (nI i) = some y ∧ (∀ k, k < 8 → bt y k = RRO O i k) ∧ ∀ k, 8 ≤ k → k < 32 → bt y k = false := by
  obtain ⟨a1, a2, a3, a4, a5, b1, b2, b3, b4, b5, k1, k2, k3, k4, h20⟩ := OL_at h hi
  obtain ⟨y1, p1, p2⟩ := regBit_n (srcO_le k3)
  obtain ⟨y2, q1, q2⟩ := regBit_n (srcO_le (xO_lt k3 k4))
  unfold f_Op_registersRead
  rw [firstS_n h hi, trigS_n h hi]
  simp (disch := omega) only [lI, nI_add, pk_mul, nI_leI, nI_ltI, nI_eq, ck_n, nm_n, nI_clamp, Option.bind_some, if_pos, if_neg, bk_n0, bk_n1, nI_sub, upd_s, mi_e, mi_ne, mi_ne2, mi_lt, mi_le, mi_nle, mi_nlt, mi_s, bt_shrE, bit_e, true_and, and_true, if_true, if_false, ne_eq, not_true_eq_false, not_false_eq_true, Bool.false_eq_true, Bool.true_eq_false, reduceCtorEq, p1, q1]
  refine ⟨_, rfl, fun k hk => ?_, fun k h8 hk => ?_⟩
  · rw [bt_or, p2 k (by omega), q2 k (by omega), srcO_eq hk, srcO_eq hk]
    unfold RRO xO
    by_cases e : kdO O i = 3
    · rw [e]; simp [hk]
    · rw [beq_false_of_ne e, if_neg e]; simp [hk]
  · rw [bt_or, p2 k hk, q2 k hk]
    have : ¬ k < 8 := by omega
    simp [this]
theorem readsR_n {O : OT} {n : Nat} {mo ki tg fi se oc mopn : Nat → Int32} (h : OL O n ki tg fi se oc mopn) {i : Nat} (hi : i < n) {k : Nat} (hk : k < 8) : f_Mo_readsRegister mo mopn (nI i) (nI k) = some (b2i (RRO O i k)) := by
  obtain ⟨a1, a2, a3, a4, a5, b1, b2, b3, b4, b5, k1, k2, k3, k4, h20⟩ := OL_at h hi
  unfold f_Mo_readsRegister f_Mo_readsRegister_40 RRO
  by_cases e1 : aO O i = k
  · simp (disch := omega) only [lI, nI_add, pk_mul, nI_leI, nI_ltI, nI_eq, ck_n, nm_n, nI_clamp, Option.bind_some, if_pos, if_neg, bk_n0, bk_n1, nI_sub, upd_s, mi_e, mi_ne, mi_ne2, mi_lt, mi_le, mi_nle, mi_nlt, mi_s, bt_shrE, bit_e, true_and, and_true, if_true, if_false, ne_eq, not_true_eq_false, not_false_eq_true, Bool.false_eq_true, Bool.true_eq_false, reduceCtorEq, b3]; rw [e1]; simp; rfl
  · by_cases e2 : kdO O i = 3
    · simp (disch := omega) only [lI, nI_add, pk_mul, nI_leI, nI_ltI, nI_eq, ck_n, nm_n, nI_clamp, Option.bind_some, if_pos, if_neg, bk_n0, bk_n1, nI_sub, upd_s, mi_e, mi_ne, mi_ne2, mi_lt, mi_le, mi_nle, mi_nlt, mi_s, bt_shrE, bit_e, true_and, and_true, if_true, if_false, ne_eq, not_true_eq_false, not_false_eq_true, Bool.false_eq_true, Bool.true_eq_false, reduceCtorEq, b3, b1]; rw [beq_false_of_ne e1, e2]; rfl
    · by_cases e3 : bO O i = k
      · simp (disch := omega) only [lI, nI_add, pk_mul, nI_leI, nI_ltI, nI_eq, ck_n, nm_n, nI_clamp, Option.bind_some, if_pos, if_neg, bk_n0, bk_n1, nI_sub, upd_s, mi_e, mi_ne, mi_ne2, mi_lt, mi_le, mi_nle, mi_nlt, mi_s, bt_shrE, bit_e, true_and, and_true, if_true, if_false, ne_eq, not_true_eq_false, not_false_eq_true, Bool.false_eq_true, Bool.true_eq_false, reduceCtorEq, b3, b1, b4]; rw [beq_false_of_ne e1, beq_false_of_ne e2, e3]; simp; rfl
      · simp (disch := omega) only [lI, nI_add, pk_mul, nI_leI, nI_ltI, nI_eq, ck_n, nm_n, nI_clamp, Option.bind_some, if_pos, if_neg, bk_n0, bk_n1, nI_sub, upd_s, mi_e, mi_ne, mi_ne2, mi_lt, mi_le, mi_nle, mi_nlt, mi_s, bt_shrE, bit_e, true_and, and_true, if_true, if_false, ne_eq, not_true_eq_false, not_false_eq_true, Bool.false_eq_true, Bool.true_eq_false, reduceCtorEq, b3, b1, b4]; rw [beq_false_of_ne e1, beq_false_of_ne e2, beq_false_of_ne e3]; rfl
