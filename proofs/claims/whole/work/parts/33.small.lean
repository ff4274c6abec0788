-- ===== rules to calculate with: literals become nI, -1 becomes mi =====
def mi : Int32 := -1
def bit (t : Nat) : Int32 := nI 1 <<< (nI t &&& nI 31)
theorem mi_e : -nI 1 = mi := by decide +kernel
theorem bit_e (t : Nat) : nI 1 <<< (nI t &&& nI 31) = bit t := rfl
theorem bk_n0 {α : Type} {k : Option α} : bk (nI 0) k = k := bk_0
theorem bk_n1 {α : Type} {k : Option α} : bk (nI 1) k = k := bk_1
theorem nI_sub {a b : Nat} (h : b ≤ a) : nI a - nI b = nI (a - b) := by
  have : nI a = nI (a - b) + nI b := by rw [nI_add]; congr 1; omega
  rw [this]
  exact Int32.add_sub_cancel _ _
theorem mi_ne {a : Nat} (h : a < 2 ^ 31) : (nI a = mi) = False := eq_false (nI_m1 h)
theorem mi_ne2 {a : Nat} (h : a < 2 ^ 31) : (mi = nI a) = False := eq_false (fun e => nI_m1 h e.symm)
theorem mi_lt0 : mi < 0 := by decide
theorem mi_le {a : Nat} (h : a < 2 ^ 31) : (mi ≤ nI a) = True := eq_true (Int32.le_trans (Int32.le_of_lt mi_lt0) (nI_pos' h))
theorem mi_lt {a : Nat} (h : a < 2 ^ 31) : (mi < nI a) = True := eq_true (Int32.lt_of_lt_of_le mi_lt0 (nI_pos' h))
theorem mi_nle {a : Nat} (h : a < 2 ^ 31) : (nI a ≤ mi) = False := eq_false (Int32.not_le.mpr (Int32.lt_of_lt_of_le mi_lt0 (nI_pos' h)))
theorem mi_nlt {a : Nat} (h : a < 2 ^ 31) : (nI a < mi) = False := eq_false (Int32.not_lt.mpr (Int32.le_trans (Int32.le_of_lt mi_lt0) (nI_pos' h)))
theorem mi_s : mi + nI 1 = nI 0 := by decide
theorem bt_shrE (x : Int32) {t : Nat} (ht : t < 32) : ((x >>> (nI t &&& nI 31)) &&& nI 1 = nI 0) = (bt x t = false) := propext (bt_shr x ht)
theorem bt_bit {t : Nat} (ht : t < 32) (i : Nat) : bt (bit t) i = decide (i = t) := bt_shl ht i
theorem bt_shr1E (x : Int32) {t : Nat} (ht : t < 32) : (x >>> (nI t &&& nI 31)) &&& nI 1 = if bt x t = true then nI 1 else nI 0 := bt_shr1 x ht
theorem updL_s (f : Nat → Int64) (k : Nat) (x : Int64) : vp_updL f k x k = x := by simp [vp_updL]
theorem updL_n {f : Nat → Int64} {k j : Nat} {x : Int64} (h : j ≠ k) : vp_updL f k x j = f j := by simp [vp_updL, h]
-- ===== poke, peek, state =====
def RW (wo mreg mmem : Nat → Int32) : Prop := (∀ k, k < 8 → wo k = mreg k) ∧ ∀ k, k < 64 → wo (8 + k) = mmem k
theorem place_cases (v : Int32) : (f_Md_isPlace v = some 0 ∧ (v < 0 ∨ ¬ v < 0 ∧ ¬ v ≤ 71)) ∨ ∃ k, k < 72 ∧ v = nI k ∧ f_Md_isPlace v = some 1 := by
  unfold f_Md_isPlace
  rcases within_cases v (n := 71) (by omega) with ⟨h, hv⟩ | ⟨k, hk, rfl, h⟩
  · left
    refine ⟨?_, ?_⟩
    · rw [show (71 : Int32) = nI 71 from rfl, h]; rfl
    · by_cases h0 : v < 0
      · exact Or.inl h0
      · exact Or.inr ⟨h0, Int32.not_le.mpr (hv.resolve_left h0)⟩
  · right
    refine ⟨k, by omega, rfl, ?_⟩
    rw [show (71 : Int32) = nI 71 from rfl, h]; rfl
theorem RW_upd {wo mreg mmem : Nat → Int32} (h : RW wo mreg mmem) {k : Nat} (hk : k < 72) (v : Int32) : (k < 8 → RW (upd wo k v) (upd mreg k v) mmem) ∧ (8 ≤ k → RW (upd wo k v) mreg (upd mmem (k - 8) v)) := by
  refine ⟨fun h8 => ⟨fun j hj => ?_, fun j hj => ?_⟩, fun h8 => ⟨fun j hj => ?_, fun j hj => ?_⟩⟩
  · by_cases e : j = k
    · subst e; rw [upd_s, upd_s]
    · rw [upd_n e, upd_n e]; exact h.1 j hj
  · rw [upd_n (by omega)]; exact h.2 j hj
  · rw [upd_n (by omega)]; exact h.1 j hj
  · by_cases e : j = k - 8
    · subst e
      have : 8 + (k - 8) = k := by omega
      rw [this, upd_s, upd_s]
    · rw [upd_n (by omega), upd_n e]; exact h.2 j hj
theorem case_poke {r_md r_ma wo r_mo mreg mmem : Nat → Int32} (h : RW wo mreg mmem) (v1 v2 : Int32) :
    ∃ ya ym, f_La_poke r_md r_ma wo v1 v2 = some ya ∧ f_Mo_poke r_mo mreg mmem v1 v2 = some ym ∧ ym.1 0 = ya.1 ∧ mk0 r_mo ym.1 ∧ RW ya.2 ym.2.1 ym.2.2 := by
  rcases place_cases v1 with ⟨e, hv⟩ | ⟨k, hk, rfl, e⟩
  · refine ⟨(1, wo), (upd r_mo 0 1, mreg, mmem), ?_, ?_, upd_s r_mo 0 1, mk0_upd _ _, h⟩
    · unfold f_La_poke f_Md_poke; rw [e]; rfl
    · unfold f_Mo_poke
      have e2 : f_Mo_poke_19 (upd r_mo 0 1) mreg mmem v1 v2 = some (upd r_mo 0 1, mreg, mmem) := by
        unfold f_Mo_poke_19; rw [upd_s]; rfl
      rcases hv with hv | ⟨hv, hv2⟩
      · rw [if_pos hv, e2]
      · rw [if_neg hv, if_neg hv2, e2]
  · refine ⟨(0, upd wo k v2), if k < 8 then (upd r_mo 0 0, upd mreg k v2, mmem) else (upd r_mo 0 0, mreg, upd mmem (k - 8) v2), ?_, ?_, ?_, ?_, ?_⟩
    · unfold f_La_poke f_Md_poke; rw [e]; simp (disch := omega) only [lI, nI_add, pk_mul, nI_leI, nI_ltI, nI_eq, ck_n, nm_n, nI_clamp, Option.bind_some, if_pos, if_neg, bk_n0, bk_n1, nI_sub, upd_s, mi_e, mi_ne, mi_ne2, mi_lt, mi_le, mi_nle, mi_nlt, mi_s, bt_shrE, bit_e, true_and, and_true, if_true, if_false, ne_eq, not_true_eq_false, not_false_eq_true, Bool.false_eq_true, Bool.true_eq_false, reduceCtorEq]
    · unfold f_Mo_poke f_Mo_poke_19
      by_cases h8 : k < 8
      · simp (disch := omega) only [lI, nI_add, pk_mul, nI_leI, nI_ltI, nI_eq, ck_n, nm_n, nI_clamp, Option.bind_some, if_pos, if_neg, bk_n0, bk_n1, nI_sub, upd_s, mi_e, mi_ne, mi_ne2, mi_lt, mi_le, mi_nle, mi_nlt, mi_s, bt_shrE, bit_e, true_and, and_true, if_true, if_false, ne_eq, not_true_eq_false, not_false_eq_true, Bool.false_eq_true, Bool.true_eq_false, reduceCtorEq]
      · simp (disch := omega) only [lI, nI_add, pk_mul, nI_leI, nI_ltI, nI_eq, ck_n, nm_n, nI_clamp, Option.bind_some, if_pos, if_neg, bk_n0, bk_n1, nI_sub, upd_s, mi_e, mi_ne, mi_ne2, mi_lt, mi_le, mi_nle, mi_nlt, mi_s, bt_shrE, bit_e, true_and, and_true, if_true, if_false, ne_eq, not_true_eq_false, not_false_eq_true, Bool.false_eq_true, Bool.true_eq_false, reduceCtorEq]
    · by_cases h8 : k < 8
      · rw [if_pos h8]; exact upd_s r_mo 0 0
      · rw [if_neg h8]; exact upd_s r_mo 0 0
    · by_cases h8 : k < 8
      · rw [if_pos h8]; exact mk0_upd _ _
      · rw [if_neg h8]; exact mk0_upd _ _
    · by_cases h8 : k < 8
      · rw [if_pos h8]; exact (RW_upd h hk v2).1 h8
      · rw [if_neg h8]; exact (RW_upd h hk v2).2 (by omega)
theorem case_peek {r_md r_ma wo r_mo mreg mmem : Nat → Int32} {out : Nat → Int64} (h : RW wo mreg mmem) (v1 : Int32) :
    ∃ ya ym, f_La_peek r_md r_ma wo out v1 = some ya ∧ f_Mo_peek r_mo mreg mmem v1 = some ym ∧ ym.2 0 = ya.1 ∧ mk0 r_mo ym.2 ∧ (ya.1 = 0 → ya.2 0 = ym.1.toInt64) := by
  rcases place_cases v1 with ⟨e, hv⟩ | ⟨k, hk, rfl, e⟩
  · refine ⟨(1, out), (0, upd r_mo 0 1), ?_, ?_, upd_s r_mo 0 1, mk0_upd _ _, ?_⟩
    · unfold f_La_peek f_Md_peek; rw [e]; rfl
    · unfold f_Mo_peek
      have e2 : f_Mo_peek_19 (upd r_mo 0 1) mreg mmem v1 = some (0, upd r_mo 0 1) := by
        unfold f_Mo_peek_19; rw [upd_s]; rfl
      rcases hv with hv | ⟨hv, hv2⟩
      · rw [if_pos hv, e2]
      · rw [if_neg hv, if_neg hv2, e2]
    · intro hc; exact absurd hc (show ¬ (1 : Int32) = 0 by decide)
  · refine ⟨(0, vp_updL out 0 (wo k).toInt64), (wo k, upd r_mo 0 0), ?_, ?_, upd_s r_mo 0 0, mk0_upd _ _, fun _ => updL_s out 0 _⟩
    · unfold f_La_peek f_Md_peek; rw [e]; simp (disch := omega) only [lI, nI_add, pk_mul, nI_leI, nI_ltI, nI_eq, ck_n, nm_n, nI_clamp, Option.bind_some, if_pos, if_neg, bk_n0, bk_n1, nI_sub, upd_s, mi_e, mi_ne, mi_ne2, mi_lt, mi_le, mi_nle, mi_nlt, mi_s, bt_shrE, bit_e, true_and, and_true, if_true, if_false, ne_eq, not_true_eq_false, not_false_eq_true, Bool.false_eq_true, Bool.true_eq_false, reduceCtorEq]
    · unfold f_Mo_peek f_Mo_peek_19
      by_cases h8 : k < 8
      · simp (disch := omega) only [lI, nI_add, pk_mul, nI_leI, nI_ltI, nI_eq, ck_n, nm_n, nI_clamp, Option.bind_some, if_pos, if_neg, bk_n0, bk_n1, nI_sub, upd_s, mi_e, mi_ne, mi_ne2, mi_lt, mi_le, mi_nle, mi_nlt, mi_s, bt_shrE, bit_e, true_and, and_true, if_true, if_false, ne_eq, not_true_eq_false, not_false_eq_true, Bool.false_eq_true, Bool.true_eq_false, reduceCtorEq, h.1 k h8]
      · have e3 := h.2 (k - 8) (by omega)
        rw [show 8 + (k - 8) = k by omega] at e3
        simp (disch := omega) only [lI, nI_add, pk_mul, nI_leI, nI_ltI, nI_eq, ck_n, nm_n, nI_clamp, Option.bind_some, if_pos, if_neg, bk_n0, bk_n1, nI_sub, upd_s, mi_e, mi_ne, mi_ne2, mi_lt, mi_le, mi_nle, mi_nlt, mi_s, bt_shrE, bit_e, true_and, and_true, if_true, if_false, ne_eq, not_true_eq_false, not_false_eq_true, Bool.false_eq_true, Bool.true_eq_false, reduceCtorEq, e3]
