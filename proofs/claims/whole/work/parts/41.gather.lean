-- ===== what a bundle is =====
def anyM (P : Nat × Int32 × Nat → Bool) (M : MT) : Nat → Bool
  | 0 => false
  | i + 1 => anyM P M i || (match M i with | none => false | some q => P q)
def TG (d : Nat) : Nat := (tgV d).toNatClampNeg
theorem TG_ok : ∀ d, d < 26 → tgV d = nI (TG d) ∧ TG d < 15 ∧ (TG d < 8 ↔ d < 8) ∧ (d < 8 → TG d = d) := by decide +kernel
def clash (M : MT) : Nat → Bool
  | 0 => false
  | i + 1 => clash M i || (match M i with | none => false | some q => anyM (fun p => TG p.2.2 == TG q.2.2) M i)
def jbus (M : MT) : Nat → Int32
  | 0 => mi
  | i + 1 => match M i with | none => jbus M i | some q => if q.2.2 = 24 then nI i else jbus M i
def bgn (d t : Nat) : Bool := (t == 0 && (d == 11 || d == 12)) || (t == 1 && d == 13) || (t == 2 && d == 14)
def GI (M : MT) (i : Nat) (r : Nat → Int32) : Prop :=
  (∀ t, t < 32 → bt (r 0) t = anyM (fun q => TG q.2.2 == t) M i) ∧ r 1 = b2i (clash M i) ∧ (∀ t, t < 32 → bt (r 2) t = anyM (fun q => q.1 == t && decide (t < 8)) M i) ∧ (∀ t, t < 32 → bt (r 3) t = anyM (fun q => q.1 == 8 + t && decide (t < 3)) M i) ∧ (∀ t, t < 32 → bt (r 4) t = anyM (fun q => bgn q.2.2 t) M i) ∧ r 5 = jbus M i ∧ r 6 = b2i (anyM (fun q => q.2.2 == 24 && !(q.1 == 11)) M i) ∧ r 7 = b2i (anyM (fun q => q.2.2 == 25) M i)
theorem anyM_none {P : Nat × Int32 × Nat → Bool} {M : MT} {i : Nat} (h : M i = none) : anyM P M (i + 1) = anyM P M i := by simp [anyM, h]
theorem anyM_some {P : Nat × Int32 × Nat → Bool} {M : MT} {i : Nat} {q : Nat × Int32 × Nat} (h : M i = some q) : anyM P M (i + 1) = (anyM P M i || P q) := by simp [anyM, h]
theorem GI_none {M : MT} {i : Nat} {r : Nat → Int32} (hM : M i = none) (h : GI M i r) : GI M (i + 1) r := by
  unfold GI at h ⊢
  simp only [anyM_none hM]
  have e1 : clash M (i + 1) = clash M i := by simp [clash, hM]
  have e2 : jbus M (i + 1) = jbus M i := by simp [jbus, hM]
  rw [e1, e2]
  exact h
theorem GI_ext {M : MT} {r : Nat → Int32} : ∀ (d i : Nat), i + d = 4 → (∀ b, i ≤ b → b < 4 → M b = none) → GI M i r → GI M 4 r
  | 0, i, hi, _, h => by
    have : i = 4 := by omega
    subst this; exact h
  | d + 1, i, hi, hb, h => GI_ext d (i + 1) (by omega) (fun b h1 h2 => hb b (by omega) h2) (GI_none (hb i (by omega) (by omega)) h)
theorem takeSource_n (r : Nat → Int32) {s : Nat} (hs : s ≤ 11) : ∃ r', f_Bu_takeSource r (nI s) = some r' ∧ (∀ t, t < 32 → bt (r' 2) t = (bt (r 2) t || (s == t && decide (t < 8)))) ∧ (∀ t, t < 32 → bt (r' 3) t = (bt (r 3) t || (s == 8 + t && decide (t < 3)))) ∧ r' 0 = r 0 ∧ r' 1 = r 1 ∧ r' 4 = r 4 ∧ r' 5 = r 5 ∧ r' 6 = r 6 ∧ r' 7 = r 7 := by
  unfold f_Bu_takeSource
  by_cases h8 : s < 8
  · simp (disch := omega) only [lI, nI_add, pk_mul, nI_leI, nI_ltI, nI_eq, ck_n, nm_n, nI_clamp, Option.bind_some, if_pos, if_neg, bk_n0, bk_n1, nI_sub, upd_s, mi_e, mi_ne, mi_ne2, mi_lt, mi_le, mi_nle, mi_nlt, mi_s, bt_shrE, bit_e, true_and, and_true, if_true, if_false, ne_eq, not_true_eq_false, not_false_eq_true, Bool.false_eq_true, Bool.true_eq_false, reduceCtorEq]
    refine ⟨_, rfl, fun t ht => ?_, fun t ht => ?_, rfl, rfl, rfl, rfl, rfl, rfl⟩
    · rw [upd_s, bt_or, bt_bit (by omega)]
      congr 1
      by_cases e : t = s
      · subst e; simp [h8]
      · have : ¬ s = t := fun q => e q.symm
        simp [e, this]
    · have e1 : upd r 2 (r 2 ||| bit s) 3 = r 3 := rfl
      rw [e1]
      have : ¬ s = 8 + t := by omega
      simp [this]
  · by_cases h11 : s < 11
    · simp (disch := omega) only [lI, nI_add, pk_mul, nI_leI, nI_ltI, nI_eq, ck_n, nm_n, nI_clamp, Option.bind_some, if_pos, if_neg, bk_n0, bk_n1, nI_sub, upd_s, mi_e, mi_ne, mi_ne2, mi_lt, mi_le, mi_nle, mi_nlt, mi_s, bt_shrE, bit_e, true_and, and_true, if_true, if_false, ne_eq, not_true_eq_false, not_false_eq_true, Bool.false_eq_true, Bool.true_eq_false, reduceCtorEq]
      refine ⟨_, rfl, fun t ht => ?_, fun t ht => ?_, rfl, rfl, rfl, rfl, rfl, rfl⟩
      · have e1 : upd r 3 (r 3 ||| bit (s - 8)) 2 = r 2 := rfl
        rw [e1]
        by_cases e : s = t
        · have : ¬ t < 8 := by omega
          simp [this]
        · simp [e]
      · rw [upd_s, bt_or, bt_bit (by omega)]
        congr 1
        by_cases e : t = s - 8
        · have e2 : s = 8 + t := by omega
          have e3 : t < 3 := by omega
          simp [← e, e2, e3]
        · have : ¬ s = 8 + t := by omega
          simp [e, this]
    · simp (disch := omega) only [lI, nI_add, pk_mul, nI_leI, nI_ltI, nI_eq, ck_n, nm_n, nI_clamp, Option.bind_some, if_pos, if_neg, bk_n0, bk_n1, nI_sub, upd_s, mi_e, mi_ne, mi_ne2, mi_lt, mi_le, mi_nle, mi_nlt, mi_s, bt_shrE, bit_e, true_and, and_true, if_true, if_false, ne_eq, not_true_eq_false, not_false_eq_true, Bool.false_eq_true, Bool.true_eq_false, reduceCtorEq]
      refine ⟨_, rfl, fun t ht => ?_, fun t ht => ?_, rfl, rfl, rfl, rfl, rfl, rfl⟩
      · by_cases e : s = t
        · have : ¬ t < 8 := by omega
          simp [this]
        · simp [e]
      · by_cases e : s = 8 + t
        · have : ¬ t < 3 := by omega
          simp [this]
        · simp [e]
theorem bt_lit : ∀ k, k < 8 → ∀ t, t < 32 → bt (nI k) t = Nat.testBit k t := fun k _ t ht => bt_nI ht
theorem takeDest65_n (r : Nat → Int32) {d : Nat} (hd : d ≤ 25) : ∃ r', f_Bu_takeDestination_65 r (nI d) = some r' ∧ (∀ t, t < 32 → bt (r' 4) t = (bt (r 4) t || bgn d t)) ∧ r' 0 = r 0 ∧ r' 1 = r 1 ∧ r' 2 = r 2 ∧ r' 3 = r 3 ∧ r' 5 = r 5 ∧ r' 6 = r 6 ∧ r' 7 = r 7 := by
  unfold f_Bu_takeDestination_65 f_Bu_takeDestination_77
  have l1 : ∀ t, t < 32 → bt (nI 1) t = (t == 0) := by decide +kernel
  have l2 : ∀ t, t < 32 → bt (nI 2) t = (t == 1) := by decide +kernel
  have l4 : ∀ t, t < 32 → bt (nI 4) t = (t == 2) := by decide +kernel
  rcases (show d = 11 ∨ d = 12 ∨ d = 13 ∨ d = 14 ∨ (d ≠ 11 ∧ d ≠ 12 ∧ d ≠ 13 ∧ d ≠ 14) by omega) with rfl | rfl | rfl | rfl | ⟨h1, h2, h3, h4⟩
  · simp (disch := omega) only [lI, nI_add, pk_mul, nI_leI, nI_ltI, nI_eq, ck_n, nm_n, nI_clamp, Option.bind_some, if_pos, if_neg, bk_n0, bk_n1, nI_sub, upd_s, mi_e, mi_ne, mi_ne2, mi_lt, mi_le, mi_nle, mi_nlt, mi_s, bt_shrE, bit_e, true_and, and_true, if_true, if_false, ne_eq, not_true_eq_false, not_false_eq_true, Bool.false_eq_true, Bool.true_eq_false, reduceCtorEq]
    refine ⟨_, rfl, fun t ht => ?_, rfl, rfl, rfl, rfl, rfl, rfl, rfl⟩
    rw [upd_s, bt_or, l1 t ht]; simp [bgn]
  · simp (disch := omega) only [lI, nI_add, pk_mul, nI_leI, nI_ltI, nI_eq, ck_n, nm_n, nI_clamp, Option.bind_some, if_pos, if_neg, bk_n0, bk_n1, nI_sub, upd_s, mi_e, mi_ne, mi_ne2, mi_lt, mi_le, mi_nle, mi_nlt, mi_s, bt_shrE, bit_e, true_and, and_true, if_true, if_false, ne_eq, not_true_eq_false, not_false_eq_true, Bool.false_eq_true, Bool.true_eq_false, reduceCtorEq]
    refine ⟨_, rfl, fun t ht => ?_, rfl, rfl, rfl, rfl, rfl, rfl, rfl⟩
    rw [upd_s, bt_or, l1 t ht]; simp [bgn]
  · simp (disch := omega) only [lI, nI_add, pk_mul, nI_leI, nI_ltI, nI_eq, ck_n, nm_n, nI_clamp, Option.bind_some, if_pos, if_neg, bk_n0, bk_n1, nI_sub, upd_s, mi_e, mi_ne, mi_ne2, mi_lt, mi_le, mi_nle, mi_nlt, mi_s, bt_shrE, bit_e, true_and, and_true, if_true, if_false, ne_eq, not_true_eq_false, not_false_eq_true, Bool.false_eq_true, Bool.true_eq_false, reduceCtorEq]
    refine ⟨_, rfl, fun t ht => ?_, rfl, rfl, rfl, rfl, rfl, rfl, rfl⟩
    rw [upd_s, bt_or, l2 t ht]; simp [bgn]
  · simp (disch := omega) only [lI, nI_add, pk_mul, nI_leI, nI_ltI, nI_eq, ck_n, nm_n, nI_clamp, Option.bind_some, if_pos, if_neg, bk_n0, bk_n1, nI_sub, upd_s, mi_e, mi_ne, mi_ne2, mi_lt, mi_le, mi_nle, mi_nlt, mi_s, bt_shrE, bit_e, true_and, and_true, if_true, if_false, ne_eq, not_true_eq_false, not_false_eq_true, Bool.false_eq_true, Bool.true_eq_false, reduceCtorEq]
    refine ⟨_, rfl, fun t ht => ?_, rfl, rfl, rfl, rfl, rfl, rfl, rfl⟩
    rw [upd_s, bt_or, l4 t ht]; simp [bgn]
  · simp (disch := omega) only [lI, nI_add, pk_mul, nI_leI, nI_ltI, nI_eq, ck_n, nm_n, nI_clamp, Option.bind_some, if_pos, if_neg, bk_n0, bk_n1, nI_sub, upd_s, mi_e, mi_ne, mi_ne2, mi_lt, mi_le, mi_nle, mi_nlt, mi_s, bt_shrE, bit_e, true_and, and_true, if_true, if_false, ne_eq, not_true_eq_false, not_false_eq_true, Bool.false_eq_true, Bool.true_eq_false, reduceCtorEq]
    refine ⟨_, rfl, fun t ht => ?_, rfl, rfl, rfl, rfl, rfl, rfl, rfl⟩
    simp [bgn, h1, h2, h3, h4]
theorem takeDest33_n (r : Nat → Int32) {d : Nat} (hd : d ≤ 25) (v : Int32) {z : Bool} (hz : r 7 = b2i z) : ∃ r', f_Bu_takeDestination_33 r (nI d) v = some r' ∧ (∀ t, t < 32 → bt (r' 4) t = (bt (r 4) t || bgn d t)) ∧ r' 0 = r 0 ||| v ∧ r' 1 = r 1 ∧ r' 2 = r 2 ∧ r' 3 = r 3 ∧ r' 5 = r 5 ∧ r' 6 = r 6 ∧ r' 7 = b2i (z || d == 25) := by
  unfold f_Bu_takeDestination_33
  simp (disch := omega) only [lI, nI_add, pk_mul, nI_leI, nI_ltI, nI_eq, ck_n, nm_n, nI_clamp, Option.bind_some, if_pos, if_neg, bk_n0, bk_n1, nI_sub, upd_s, mi_e, mi_ne, mi_ne2, mi_lt, mi_le, mi_nle, mi_nlt, mi_s, bt_shrE, bit_e, true_and, and_true, if_true, if_false, ne_eq, not_true_eq_false, not_false_eq_true, Bool.false_eq_true, Bool.true_eq_false, reduceCtorEq, hz, b2i_0]
  cases z
  · by_cases e : d = 25
    · simp (disch := omega) only [lI, nI_add, pk_mul, nI_leI, nI_ltI, nI_eq, ck_n, nm_n, nI_clamp, Option.bind_some, if_pos, if_neg, bk_n0, bk_n1, nI_sub, upd_s, mi_e, mi_ne, mi_ne2, mi_lt, mi_le, mi_nle, mi_nlt, mi_s, bt_shrE, bit_e, true_and, and_true, if_true, if_false, ne_eq, not_true_eq_false, not_false_eq_true, Bool.false_eq_true, Bool.true_eq_false, reduceCtorEq]
      obtain ⟨r', h1, h2, h3, h4, h5, h6, h7, h8, h9⟩ := takeDest65_n (upd (upd r 0 (r 0 ||| v)) 7 (nI 1)) hd
      exact ⟨r', h1, h2, h3, h4, h5, h6, h7, h8, by rw [h9]; simp [e]; rfl⟩
    · simp (disch := omega) only [lI, nI_add, pk_mul, nI_leI, nI_ltI, nI_eq, ck_n, nm_n, nI_clamp, Option.bind_some, if_pos, if_neg, bk_n0, bk_n1, nI_sub, upd_s, mi_e, mi_ne, mi_ne2, mi_lt, mi_le, mi_nle, mi_nlt, mi_s, bt_shrE, bit_e, true_and, and_true, if_true, if_false, ne_eq, not_true_eq_false, not_false_eq_true, Bool.false_eq_true, Bool.true_eq_false, reduceCtorEq]
      obtain ⟨r', h1, h2, h3, h4, h5, h6, h7, h8, h9⟩ := takeDest65_n (upd (upd r 0 (r 0 ||| v)) 7 (nI 0)) hd
      exact ⟨r', h1, h2, h3, h4, h5, h6, h7, h8, by rw [h9, beq_false_of_ne e]; rfl⟩
  · simp (disch := omega) only [lI, nI_add, pk_mul, nI_leI, nI_ltI, nI_eq, ck_n, nm_n, nI_clamp, Option.bind_some, if_pos, if_neg, bk_n0, bk_n1, nI_sub, upd_s, mi_e, mi_ne, mi_ne2, mi_lt, mi_le, mi_nle, mi_nlt, mi_s, bt_shrE, bit_e, true_and, and_true, if_true, if_false, ne_eq, not_true_eq_false, not_false_eq_true, Bool.false_eq_true, Bool.true_eq_false, reduceCtorEq]
    obtain ⟨r', h1, h2, h3, h4, h5, h6, h7, h8, h9⟩ := takeDest65_n (upd (upd r 0 (r 0 ||| v)) 7 (nI 1)) hd
    exact ⟨r', h1, h2, h3, h4, h5, h6, h7, h8, by rw [h9]; simp; rfl⟩
theorem and_bit (x : Int32) {t : Nat} (ht : t < 32) : (x &&& bit t = nI 0) = (bt x t = false) := by
  apply propext
  rw [show nI 0 = (0 : Int32) from rfl, bt_eq0]
  constructor
  · intro h
    have := h t ht
    rw [bt_and, bt_bit ht] at this
    simpa using this
  · intro h i hi
    rw [bt_and, bt_bit ht]
    by_cases e : i = t
    · subst e; rw [h]; rfl
    · simp [e]
theorem takeDest_n (r : Nat → Int32) {d : Nat} (hd : d ≤ 25) {z w : Bool} (hz : r 7 = b2i z) (hw : r 1 = b2i w) : ∃ r', f_Bu_takeDestination r (nI d) = some r' ∧ (∀ t, t < 32 → bt (r' 4) t = (bt (r 4) t || bgn d t)) ∧ (∀ t, t < 32 → bt (r' 0) t = (bt (r 0) t || TG d == t)) ∧ r' 1 = b2i (w || bt (r 0) (TG d)) ∧ r' 2 = r 2 ∧ r' 3 = r 3 ∧ r' 5 = r 5 ∧ r' 6 = r 6 ∧ r' 7 = b2i (z || d == 25) := by
  obtain ⟨t1, t2, _, _⟩ := TG_ok d (by omega)
  unfold f_Bu_takeDestination
  simp (disch := omega) only [lI, nI_add, pk_mul, nI_leI, nI_ltI, nI_eq, ck_n, nm_n, nI_clamp, Option.bind_some, if_pos, if_neg, bk_n0, bk_n1, nI_sub, upd_s, mi_e, mi_ne, mi_ne2, mi_lt, mi_le, mi_nle, mi_nlt, mi_s, bt_shrE, bit_e, true_and, and_true, if_true, if_false, ne_eq, not_true_eq_false, not_false_eq_true, Bool.false_eq_true, Bool.true_eq_false, reduceCtorEq, t1, hw, b2i_0, and_bit]
  have go : ∀ y : Bool, y = (w || bt (r 0) (TG d)) → ∃ r', f_Bu_takeDestination_33 (upd r 1 (b2i y)) (nI d) (bit (TG d)) = some r' ∧ (∀ t, t < 32 → bt (r' 4) t = (bt (r 4) t || bgn d t)) ∧ (∀ t, t < 32 → bt (r' 0) t = (bt (r 0) t || TG d == t)) ∧ r' 1 = b2i (w || bt (r 0) (TG d)) ∧ r' 2 = r 2 ∧ r' 3 = r 3 ∧ r' 5 = r 5 ∧ r' 6 = r 6 ∧ r' 7 = b2i (z || d == 25) := fun y hy => by
    obtain ⟨r', h1, h2, h3, h4, h5, h6, h7, h8, h9⟩ := takeDest33_n (upd r 1 (b2i y)) hd (bit (TG d)) (z := z) hz
    refine ⟨r', h1, h2, fun t ht => ?_, ?_, h5, h6, h7, h8, h9⟩
    · rw [h3, bt_or, bt_bit (by omega)]
      have e1 : upd r 1 (b2i y) 0 = r 0 := rfl
      rw [e1]
      congr 1
      by_cases e : t = TG d
      · subst e; simp
      · have : ¬ TG d = t := fun q => e q.symm
        simp [e, this]
    · rw [h4, upd_s, hy]
  cases w
  · rcases hb : bt (r 0) (TG d) with _ | _
    · simp (disch := omega) only [lI, nI_add, pk_mul, nI_leI, nI_ltI, nI_eq, ck_n, nm_n, nI_clamp, Option.bind_some, if_pos, if_neg, bk_n0, bk_n1, nI_sub, upd_s, mi_e, mi_ne, mi_ne2, mi_lt, mi_le, mi_nle, mi_nlt, mi_s, bt_shrE, bit_e, true_and, and_true, if_true, if_false, ne_eq, not_true_eq_false, not_false_eq_true, Bool.false_eq_true, Bool.true_eq_false, reduceCtorEq]; rw [hb] at go; exact go false rfl
    · simp (disch := omega) only [lI, nI_add, pk_mul, nI_leI, nI_ltI, nI_eq, ck_n, nm_n, nI_clamp, Option.bind_some, if_pos, if_neg, bk_n0, bk_n1, nI_sub, upd_s, mi_e, mi_ne, mi_ne2, mi_lt, mi_le, mi_nle, mi_nlt, mi_s, bt_shrE, bit_e, true_and, and_true, if_true, if_false, ne_eq, not_true_eq_false, not_false_eq_true, Bool.false_eq_true, Bool.true_eq_false, reduceCtorEq]; rw [hb] at go; exact go true rfl
  · simp (disch := omega) only [lI, nI_add, pk_mul, nI_leI, nI_ltI, nI_eq, ck_n, nm_n, nI_clamp, Option.bind_some, if_pos, if_neg, bk_n0, bk_n1, nI_sub, upd_s, mi_e, mi_ne, mi_ne2, mi_lt, mi_le, mi_nle, mi_nlt, mi_s, bt_shrE, bit_e, true_and, and_true, if_true, if_false, ne_eq, not_true_eq_false, not_false_eq_true, Bool.false_eq_true, Bool.true_eq_false, reduceCtorEq]; exact go true (by simp)
theorem takeJump_n (r : Nat → Int32) {b s d : Nat} (hs : s ≤ 11) (hd : d ≤ 25) {z : Bool} (hz : r 6 = b2i z) : ∃ r', f_Bu_takeJump r (nI b) (nI s) (nI d) = some r' ∧ r' 5 = (if d = 24 then nI b else r 5) ∧ r' 6 = b2i (z || (d == 24 && !(s == 11))) ∧ r' 0 = r 0 ∧ r' 1 = r 1 ∧ r' 2 = r 2 ∧ r' 3 = r 3 ∧ r' 4 = r 4 ∧ r' 7 = r 7 := by
  unfold f_Bu_takeJump
  by_cases hd24 : d = 24
  · cases z
    · by_cases h11 : s = 11
      · simp (disch := omega) only [lI, nI_add, pk_mul, nI_leI, nI_ltI, nI_eq, ck_n, nm_n, nI_clamp, Option.bind_some, if_pos, if_neg, bk_n0, bk_n1, nI_sub, upd_s, mi_e, mi_ne, mi_ne2, mi_lt, mi_le, mi_nle, mi_nlt, mi_s, bt_shrE, bit_e, true_and, and_true, if_true, if_false, ne_eq, not_true_eq_false, not_false_eq_true, Bool.false_eq_true, Bool.true_eq_false, reduceCtorEq, hz, b2i_0]
        refine ⟨_, rfl, rfl, ?_, rfl, rfl, rfl, rfl, rfl, rfl⟩
        rw [upd_s]; simp [hd24, h11]; rfl
      · simp (disch := omega) only [lI, nI_add, pk_mul, nI_leI, nI_ltI, nI_eq, ck_n, nm_n, nI_clamp, Option.bind_some, if_pos, if_neg, bk_n0, bk_n1, nI_sub, upd_s, mi_e, mi_ne, mi_ne2, mi_lt, mi_le, mi_nle, mi_nlt, mi_s, bt_shrE, bit_e, true_and, and_true, if_true, if_false, ne_eq, not_true_eq_false, not_false_eq_true, Bool.false_eq_true, Bool.true_eq_false, reduceCtorEq, hz, b2i_0]
        refine ⟨_, rfl, rfl, ?_, rfl, rfl, rfl, rfl, rfl, rfl⟩
        rw [upd_s, beq_false_of_ne h11, hd24]; rfl
    · simp (disch := omega) only [lI, nI_add, pk_mul, nI_leI, nI_ltI, nI_eq, ck_n, nm_n, nI_clamp, Option.bind_some, if_pos, if_neg, bk_n0, bk_n1, nI_sub, upd_s, mi_e, mi_ne, mi_ne2, mi_lt, mi_le, mi_nle, mi_nlt, mi_s, bt_shrE, bit_e, true_and, and_true, if_true, if_false, ne_eq, not_true_eq_false, not_false_eq_true, Bool.false_eq_true, Bool.true_eq_false, reduceCtorEq, hz, b2i_0]
      refine ⟨_, rfl, rfl, ?_, rfl, rfl, rfl, rfl, rfl, rfl⟩
      rw [upd_s]; simp; rfl
  · simp (disch := omega) only [lI, nI_add, pk_mul, nI_leI, nI_ltI, nI_eq, ck_n, nm_n, nI_clamp, Option.bind_some, if_pos, if_neg, bk_n0, bk_n1, nI_sub, upd_s, mi_e, mi_ne, mi_ne2, mi_lt, mi_le, mi_nle, mi_nlt, mi_s, bt_shrE, bit_e, true_and, and_true, if_true, if_false, ne_eq, not_true_eq_false, not_false_eq_true, Bool.false_eq_true, Bool.true_eq_false, reduceCtorEq]
    refine ⟨_, rfl, rfl, ?_, rfl, rfl, rfl, rfl, rfl, rfl⟩
    rw [hz, beq_false_of_ne hd24, Bool.false_and, Bool.or_false]
theorem shr0 : ∀ m, m < 16 → ∀ i, i < 5 → ((nI m >>> (nI i &&& nI 31) = nI 0) ↔ ∀ b, b < 4 → i ≤ b → Nat.testBit m b = false) := by decide +kernel
theorem gather_lp {M : MT} {c : Nat} {r_co so cn de mc : Nat → Int32} (h : MC M c so cn de mc) (hc : c < 64) {m : Nat} (hm : m < 16) (hb : ∀ b, b < 4 → Nat.testBit m b = (M b).isSome) : ∀ (d i n : Nat) (r : Nat → Int32), i + d = 4 → d < n → GI M i r → ∃ r', f_Bu_gather_43 n r_co so de r (nI c) (nI m) (nI i) = some r' ∧ GI M 4 r'
  | 0, i, n + 1, r, hi, hn, hg => by
    have : i = 4 := by omega
    subst this
    refine ⟨r, ?_, hg⟩
    rw [f_Bu_gather_43]
    simp (disch := omega) only [lI, nI_add, pk_mul, nI_leI, nI_ltI, nI_eq, ck_n, nm_n, nI_clamp, Option.bind_some, if_pos, if_neg, bk_n0, bk_n1, nI_sub, upd_s, mi_e, mi_ne, mi_ne2, mi_lt, mi_le, mi_nle, mi_nlt, mi_s, bt_shrE, bit_e, true_and, and_true, if_true, if_false, ne_eq, not_true_eq_false, not_false_eq_true, Bool.false_eq_true, Bool.true_eq_false, reduceCtorEq]
    split <;> rfl
  | d + 1, i, n + 1, r, hi, hn, hg => by
    rw [f_Bu_gather_43]
    unfold f_Bu_gather_107 f_Co_source f_Co_destination
    have s0 := shr0 m hm i (by omega)
    have hmb : ∀ b, b < 4 → bt (nI m) b = (M b).isSome := fun b hb4 => by rw [bt_nI (by omega)]; exact hb b hb4
    by_cases e0 : nI m >>> (nI i &&& nI 31) = nI 0
    · refine ⟨r, ?_, GI_ext (d + 1) i hi (fun b h1 h2 => ?_) hg⟩
      · simp (disch := omega) only [lI, nI_add, pk_mul, nI_leI, nI_ltI, nI_eq, ck_n, nm_n, nI_clamp, Option.bind_some, if_pos, if_neg, bk_n0, bk_n1, nI_sub, upd_s, mi_e, mi_ne, mi_ne2, mi_lt, mi_le, mi_nle, mi_nlt, mi_s, bt_shrE, bit_e, true_and, and_true, if_true, if_false, ne_eq, not_true_eq_false, not_false_eq_true, Bool.false_eq_true, Bool.true_eq_false, reduceCtorEq, e0]
      · have := s0.mp e0 b h2 h1
        rw [hb b h2] at this
        rcases hM : M b with _ | q
        · rfl
        · rw [hM] at this; cases this
    · simp (disch := omega) only [lI, nI_add, pk_mul, nI_leI, nI_ltI, nI_eq, ck_n, nm_n, nI_clamp, Option.bind_some, if_pos, if_neg, bk_n0, bk_n1, nI_sub, upd_s, mi_e, mi_ne, mi_ne2, mi_lt, mi_le, mi_nle, mi_nlt, mi_s, bt_shrE, bit_e, true_and, and_true, if_true, if_false, ne_eq, not_true_eq_false, not_false_eq_true, Bool.false_eq_true, Bool.true_eq_false, reduceCtorEq, e0, hmb i (by omega)]
      rcases hM : M i with _ | ⟨s, k, dd⟩
      · simp (disch := omega) only [lI, nI_add, pk_mul, nI_leI, nI_ltI, nI_eq, ck_n, nm_n, nI_clamp, Option.bind_some, if_pos, if_neg, bk_n0, bk_n1, nI_sub, upd_s, mi_e, mi_ne, mi_ne2, mi_lt, mi_le, mi_nle, mi_nlt, mi_s, bt_shrE, bit_e, true_and, and_true, if_true, if_false, ne_eq, not_true_eq_false, not_false_eq_true, Bool.false_eq_true, Bool.true_eq_false, reduceCtorEq, Option.isSome_none]
        exact gather_lp h hc hm hb d (i + 1) n r (by omega) (by omega) (GI_none hM hg)
      · obtain ⟨a1, a2, a3, _, _, _, hs, hd⟩ := h i (by omega) s k dd hM
        obtain ⟨g0, g1, g2, g3, g4, g5, g6, g7⟩ := hg
        obtain ⟨r1, p1, p2, p3, p4, p5, p6, p7, p8, p9⟩ := takeSource_n r hs
        obtain ⟨r2, q1, q2, q3, q4, q5, q6, q7, q8, q9⟩ := takeDest_n r1 hd (p9.trans g7) (p5.trans g1)
        obtain ⟨r3, s1, s2, s3, s4, s5, s6, s7, s8, s9⟩ := takeJump_n r2 (b := i) hs hd (q8.trans (p8.trans g6))
        simp (disch := omega) only [lI, nI_add, pk_mul, nI_leI, nI_ltI, nI_eq, ck_n, nm_n, nI_clamp, Option.bind_some, if_pos, if_neg, bk_n0, bk_n1, nI_sub, upd_s, mi_e, mi_ne, mi_ne2, mi_lt, mi_le, mi_nle, mi_nlt, mi_s, bt_shrE, bit_e, true_and, and_true, if_true, if_false, ne_eq, not_true_eq_false, not_false_eq_true, Bool.false_eq_true, Bool.true_eq_false, reduceCtorEq, Option.isSome_some, a1, a3, p1, q1, s1]
        refine gather_lp h hc hm hb d (i + 1) n r3 (by omega) (by omega) ⟨fun t ht => ?_, ?_, fun t ht => ?_, fun t ht => ?_, fun t ht => ?_, ?_, ?_, ?_⟩
        · rw [s4, q3 t ht, p4, g0 t ht, anyM_some hM]
        · rw [s5, q4, p4, g0 _ (by have := (TG_ok dd (by omega)).2.1; omega)]
          simp [clash, hM]
        · rw [s6, q5, p2 t ht, g2 t ht, anyM_some hM]
        · rw [s7, q6, p3 t ht, g3 t ht, anyM_some hM]
        · rw [s8, q2 t ht, p6, g4 t ht, anyM_some hM]
        · rw [s2, q7, p7, g5]; simp [jbus, hM]
        · rw [s3, anyM_some hM]
        · rw [s9, q9, anyM_some hM]
theorem gather_n {M : MT} {c : Nat} {r_co so cn de mc bu : Nat → Int32} (h : MC M c so cn de mc) (hc : c < 64) {m : Nat} (hm : m < 16) (hb : ∀ b, b < 4 → Nat.testBit m b = (M b).isSome) : ∃ r', f_Bu_gather r_co so de bu (nI c) (nI m) = some r' ∧ GI M 4 r' :=
  gather_lp h hc hm hb 4 0 5000 _ (by omega) (by omega) ⟨fun t _ => bt_zero t, rfl, fun t _ => bt_zero t, fun t _ => bt_zero t, fun t _ => bt_zero t, rfl, rfl, rfl⟩
