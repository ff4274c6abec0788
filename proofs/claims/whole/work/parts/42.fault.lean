-- ===== the fault of a bundle =====
theorem anyM_iff {P : Nat × Int32 × Nat → Bool} {M : MT} : ∀ i, anyM P M i = true ↔ ∃ b q, b < i ∧ M b = some q ∧ P q = true
  | 0 => by simp [anyM]
  | i + 1 => by
    unfold anyM
    rw [Bool.or_eq_true, anyM_iff i]
    constructor
    · rintro (⟨b, q, h1, h2, h3⟩ | h)
      · exact ⟨b, q, by omega, h2, h3⟩
      · rcases hM : M i with _ | q
        · rw [hM] at h; cases h
        · rw [hM] at h; exact ⟨i, q, by omega, hM, h⟩
    · rintro ⟨b, q, h1, h2, h3⟩
      by_cases e : b = i
      · subst e; right; rw [h2]; exact h3
      · left; exact ⟨b, q, by omega, h2, h3⟩
def noRes (M : MT) (h : Nat → Bool) : Bool := anyM (fun q => decide (8 ≤ q.1) && decide (q.1 < 11) && !h (q.1 - 8)) M 4
def wrM (M : MT) : Nat → Nat
  | 0 => 0
  | i + 1 => wrM M i + (match M i with | none => 0 | some q => if q.2.2 < 8 then 1 else 0)
def rdM (M : MT) (i t : Nat) : Bool := anyM (fun q => q.1 == t && decide (t < 8)) M i
def much (M : MT) : Bool := decide (2 < cnt (rdM M 4) 8) || decide (1 < wrM M 4)
def FTb (M : MT) (h : Nat → Bool) (j : Bool) : Nat := if clash M 4 = true then 1 else if noRes M h = true then 2 else if (j && anyM (fun q => q.2.2 == 24) M 4) = true then 3 else if much M = true then 4 else 0
theorem FTb_le (M : MT) (h : Nat → Bool) (j : Bool) : FTb M h j ≤ 4 := by
  unfold FTb
  split
  · omega
  · split
    · omega
    · split
      · omega
      · split <;> omega
theorem jbus_mi {M : MT} : ∀ i, i < 100 → ((jbus M i = mi) = (anyM (fun q => q.2.2 == 24) M i = false))
  | 0, _ => by simp [jbus, anyM]
  | i + 1, hi => by
    have ih := jbus_mi (M := M) i (by omega)
    unfold jbus anyM
    rcases hM : M i with _ | q
    · simp only [Bool.or_false]; exact ih
    · by_cases e : q.2.2 = 24
      · simp only [e, if_true, mi_ne (show i < 2 ^ 31 by omega)]; simp
      · simp only [if_neg e, ih, beq_false_of_ne e, Bool.or_false]
theorem bitCount_n : ∀ m, m < 256 → f_In_bitCount (nI m) = some (nI (cnt (Nat.testBit m) 8)) := by decide +kernel
theorem bitCount_of {x : Int32} {P : Nat → Bool} (h1 : ∀ t, t < 8 → bt x t = P t) (h2 : ∀ t, 8 ≤ t → t < 32 → bt x t = false) : f_In_bitCount x = some (nI (cnt P 8)) := by
  obtain ⟨m, hm, e, hb⟩ := bt_small 8 h2
  rw [e, bitCount_n m hm, cnt_congr 8 (P := Nat.testBit m) (Q := P) (fun i hi => by rw [← hb i (by omega)]; exact h1 i hi)]
theorem wr_cnt {M : MT} (hd : ∀ b, b < 4 → ∀ s k d, M b = some (s, k, d) → d ≤ 25) : ∀ i, i ≤ 4 → clash M i = false → cnt (fun t => anyM (fun q => TG q.2.2 == t) M i) 8 = wrM M i
  | 0, _, _ => by
    simp only [anyM, wrM]
    exact cnt_none 8
  | i + 1, hi, hc => by
    have hc1 : clash M i = false := by
      unfold clash at hc
      rw [Bool.or_eq_false_iff] at hc
      exact hc.1
    have ih := wr_cnt hd i (by omega) hc1
    rcases hM : M i with _ | ⟨s, k, d⟩
    · have : wrM M (i + 1) = wrM M i := by simp [wrM, hM]
      rw [this, ← ih]
      exact cnt_congr 8 (fun t _ => by rw [anyM_none hM])
    · obtain ⟨_, t2, t3, t4⟩ := TG_ok d (by have := hd i (by omega) s k d hM; omega)
      have hcl : anyM (fun p => TG p.2.2 == TG d) M i = false := by
        unfold clash at hc
        rw [Bool.or_eq_false_iff, hM] at hc
        exact hc.2
      by_cases h8 : d < 8
      · have : wrM M (i + 1) = wrM M i + 1 := by simp [wrM, hM, h8]
        rw [this, ← ih]
        refine cnt_ins 8 (TG d) (t3.mpr h8) hcl ?_ (fun t ht hne => ?_)
        · show anyM (fun q => TG q.2.2 == TG d) M (i + 1) = true
          rw [anyM_some hM]; simp
        · show anyM (fun q => TG q.2.2 == t) M (i + 1) = _
          rw [anyM_some hM]
          simp [beq_false_of_ne (fun e : TG d = t => hne e.symm)]
      · have : wrM M (i + 1) = wrM M i := by simp [wrM, hM, h8]
        rw [this, ← ih]
        refine cnt_congr 8 (fun t ht => ?_)
        show anyM (fun q => TG q.2.2 == t) M (i + 1) = _
        rw [anyM_some hM]
        have : ¬ TG d = t := fun e => by
          have := mt t3.mp h8
          omega
        simp [beq_false_of_ne this]
theorem wr_le {M : MT} : ∀ i, wrM M i ≤ i
  | 0 => Nat.le_refl 0
  | i + 1 => by
    have := wr_le (M := M) i
    unfold wrM
    split
    · omega
    · split <;> omega
/-- the fault, as the bundle says it -/
theorem fault_n {M : MT} {r : Nat → Int32} (hd : ∀ b, b < 4 → ∀ s k d, M b = some (s, k, d) → d ≤ 25) (hg : GI M 4 r) (hc : Int32) (j : Bool) : f_Bu_leastFault r hc (b2i j) = some (nI (FTb M (bt hc) j)) := by
  obtain ⟨g0, g1, g2, g3, g4, g5, g6, g7⟩ := hg
  have e3 : ((r 3) &&& (hc ^^^ mi) = nI 0) = (noRes M (bt hc) = false) := by
    apply propext
    rw [show nI 0 = (0 : Int32) from rfl, bt_eq0]
    constructor
    · intro h
      rw [Bool.eq_false_iff]
      intro hn
      obtain ⟨b, q, h1, h2, h3⟩ := (anyM_iff 4).mp hn
      simp only [Bool.and_eq_true, decide_eq_true_eq, Bool.not_eq_true'] at h3
      have h4 := h (q.1 - 8) (by omega)
      rw [bt_and, show mi = (-1 : Int32) from rfl, bt_not _ (by omega), g3 _ (by omega)] at h4
      have h5 : anyM (fun p => p.1 == 8 + (q.1 - 8) && decide (q.1 - 8 < 3)) M 4 = true := (anyM_iff 4).mpr ⟨b, q, h1, h2, by
        have e1 : q.1 = 8 + (q.1 - 8) := by omega
        have e2 : q.1 - 8 < 3 := by omega
        rw [← e1]; simp [e2]⟩
      rw [h5, h3.2] at h4
      cases h4
    · intro h t ht
      rw [bt_and, show mi = (-1 : Int32) from rfl, bt_not _ ht, g3 t ht, Bool.eq_false_iff]
      intro hn
      rw [Bool.and_eq_true] at hn
      obtain ⟨b, q, h1, h2, h3⟩ := (anyM_iff 4).mp hn.1
      simp only [Bool.and_eq_true, beq_iff_eq, decide_eq_true_eq] at h3
      have : noRes M (bt hc) = true := (anyM_iff 4).mpr ⟨b, q, h1, h2, by
        have e2 : q.1 - 8 = t := by omega
        have e4 := hn.2
        rw [← e2] at e4
        have e5 : 8 ≤ q.1 := by omega
        have e6 : q.1 < 11 := by omega
        simp only [e5, e6, e4, decide_true, Bool.and_self]⟩
      rw [h] at this; cases this
  have e2 : f_In_bitCount (r 2) = some (nI (cnt (rdM M 4) 8)) := bitCount_of (fun t ht => g2 t (by omega)) (fun t h8 ht => by
    rw [g2 t ht, Bool.eq_false_iff]
    intro hn
    obtain ⟨b, q, h1, h2, h3⟩ := (anyM_iff 4).mp hn
    simp only [Bool.and_eq_true, decide_eq_true_eq] at h3
    omega)
  have b255 : ∀ t, t < 32 → bt (nI 255) t = decide (t < 8) := by decide +kernel
  have e0 : f_In_bitCount (r 0 &&& nI 255) = some (nI (cnt (fun t => anyM (fun q => TG q.2.2 == t) M 4) 8)) := bitCount_of (fun t ht => by
    rw [bt_and, b255 t (by omega), g0 t (by omega)]; simp [ht]) (fun t h8 ht => by
    rw [bt_and, b255 t ht]
    have : ¬ t < 8 := by omega
    simp [this])
  have c1 := cnt_le (rdM M 4) 8
  have c2 := cnt_le (fun t => anyM (fun q => TG q.2.2 == t) M 4) 8
  have tail : clash M 4 = false → f_Bu_leastFault_36 r = some (nI (if much M = true then 4 else 0)) := fun hcl => by
    have hw := wr_cnt hd 4 (by omega) hcl
    rw [hw] at e0
    have hw4 := wr_le (M := M) 4
    unfold f_Bu_leastFault_36 f_Bu_leastFault_64 much
    by_cases h1 : 2 < cnt (rdM M 4) 8
    · simp (disch := omega) only [lI, nI_add, pk_mul, nI_leI, nI_ltI, nI_eq, ck_n, nm_n, nI_clamp, Option.bind_some, if_pos, if_neg, bk_n0, bk_n1, nI_sub, upd_s, mi_e, mi_ne, mi_ne2, mi_lt, mi_le, mi_nle, mi_nlt, mi_s, bt_shrE, bit_e, true_and, and_true, if_true, if_false, ne_eq, not_true_eq_false, not_false_eq_true, Bool.false_eq_true, Bool.true_eq_false, reduceCtorEq, e2]; simp [h1]
    · by_cases h2 : 1 < wrM M 4
      · simp (disch := omega) only [lI, nI_add, pk_mul, nI_leI, nI_ltI, nI_eq, ck_n, nm_n, nI_clamp, Option.bind_some, if_pos, if_neg, bk_n0, bk_n1, nI_sub, upd_s, mi_e, mi_ne, mi_ne2, mi_lt, mi_le, mi_nle, mi_nlt, mi_s, bt_shrE, bit_e, true_and, and_true, if_true, if_false, ne_eq, not_true_eq_false, not_false_eq_true, Bool.false_eq_true, Bool.true_eq_false, reduceCtorEq, e2, e0]; simp [h2]
      · simp (disch := omega) only [lI, nI_add, pk_mul, nI_leI, nI_ltI, nI_eq, ck_n, nm_n, nI_clamp, Option.bind_some, if_pos, if_neg, bk_n0, bk_n1, nI_sub, upd_s, mi_e, mi_ne, mi_ne2, mi_lt, mi_le, mi_nle, mi_nlt, mi_s, bt_shrE, bit_e, true_and, and_true, if_true, if_false, ne_eq, not_true_eq_false, not_false_eq_true, Bool.false_eq_true, Bool.true_eq_false, reduceCtorEq, e2, e0]; simp [h1, h2]
  unfold f_Bu_leastFault FTb
  simp (disch := omega) only [lI, nI_add, pk_mul, nI_leI, nI_ltI, nI_eq, ck_n, nm_n, nI_clamp, Option.bind_some, if_pos, if_neg, bk_n0, bk_n1, nI_sub, upd_s, mi_e, mi_ne, mi_ne2, mi_lt, mi_le, mi_nle, mi_nlt, mi_s, bt_shrE, bit_e, true_and, and_true, if_true, if_false, ne_eq, not_true_eq_false, not_false_eq_true, Bool.false_eq_true, Bool.true_eq_false, reduceCtorEq, g1, b2i_0, e3, g5, jbus_mi]
  rcases hcl : clash M 4 with _ | _
  · simp (disch := omega) only [lI, nI_add, pk_mul, nI_leI, nI_ltI, nI_eq, ck_n, nm_n, nI_clamp, Option.bind_some, if_pos, if_neg, bk_n0, bk_n1, nI_sub, upd_s, mi_e, mi_ne, mi_ne2, mi_lt, mi_le, mi_nle, mi_nlt, mi_s, bt_shrE, bit_e, true_and, and_true, if_true, if_false, ne_eq, not_true_eq_false, not_false_eq_true, Bool.false_eq_true, Bool.true_eq_false, reduceCtorEq]
    rcases hn : noRes M (bt hc) with _ | _
    · simp (disch := omega) only [lI, nI_add, pk_mul, nI_leI, nI_ltI, nI_eq, ck_n, nm_n, nI_clamp, Option.bind_some, if_pos, if_neg, bk_n0, bk_n1, nI_sub, upd_s, mi_e, mi_ne, mi_ne2, mi_lt, mi_le, mi_nle, mi_nlt, mi_s, bt_shrE, bit_e, true_and, and_true, if_true, if_false, ne_eq, not_true_eq_false, not_false_eq_true, Bool.false_eq_true, Bool.true_eq_false, reduceCtorEq]
      cases j
      · simp (disch := omega) only [lI, nI_add, pk_mul, nI_leI, nI_ltI, nI_eq, ck_n, nm_n, nI_clamp, Option.bind_some, if_pos, if_neg, bk_n0, bk_n1, nI_sub, upd_s, mi_e, mi_ne, mi_ne2, mi_lt, mi_le, mi_nle, mi_nlt, mi_s, bt_shrE, bit_e, true_and, and_true, if_true, if_false, ne_eq, not_true_eq_false, not_false_eq_true, Bool.false_eq_true, Bool.true_eq_false, reduceCtorEq, tail hcl, Bool.false_and]
      · rcases ha : anyM (fun q => q.2.2 == 24) M 4 with _ | _
        · simp (disch := omega) only [lI, nI_add, pk_mul, nI_leI, nI_ltI, nI_eq, ck_n, nm_n, nI_clamp, Option.bind_some, if_pos, if_neg, bk_n0, bk_n1, nI_sub, upd_s, mi_e, mi_ne, mi_ne2, mi_lt, mi_le, mi_nle, mi_nlt, mi_s, bt_shrE, bit_e, true_and, and_true, if_true, if_false, ne_eq, not_true_eq_false, not_false_eq_true, Bool.false_eq_true, Bool.true_eq_false, reduceCtorEq, tail hcl, Bool.true_and]
        · simp (disch := omega) only [lI, nI_add, pk_mul, nI_leI, nI_ltI, nI_eq, ck_n, nm_n, nI_clamp, Option.bind_some, if_pos, if_neg, bk_n0, bk_n1, nI_sub, upd_s, mi_e, mi_ne, mi_ne2, mi_lt, mi_le, mi_nle, mi_nlt, mi_s, bt_shrE, bit_e, true_and, and_true, if_true, if_false, ne_eq, not_true_eq_false, not_false_eq_true, Bool.false_eq_true, Bool.true_eq_false, reduceCtorEq, Bool.true_and]
    · simp (disch := omega) only [lI, nI_add, pk_mul, nI_leI, nI_ltI, nI_eq, ck_n, nm_n, nI_clamp, Option.bind_some, if_pos, if_neg, bk_n0, bk_n1, nI_sub, upd_s, mi_e, mi_ne, mi_ne2, mi_lt, mi_le, mi_nle, mi_nlt, mi_s, bt_shrE, bit_e, true_and, and_true, if_true, if_false, ne_eq, not_true_eq_false, not_false_eq_true, Bool.false_eq_true, Bool.true_eq_false, reduceCtorEq]
  · simp (disch := omega) only [lI, nI_add, pk_mul, nI_leI, nI_ltI, nI_eq, ck_n, nm_n, nI_clamp, Option.bind_some, if_pos, if_neg, bk_n0, bk_n1, nI_sub, upd_s, mi_e, mi_ne, mi_ne2, mi_lt, mi_le, mi_nle, mi_nlt, mi_s, bt_shrE, bit_e, true_and, and_true, if_true, if_false, ne_eq, not_true_eq_false, not_false_eq_true, Bool.false_eq_true, Bool.true_eq_false, reduceCtorEq]
