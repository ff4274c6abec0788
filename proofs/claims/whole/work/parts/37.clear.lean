-- ===== clear =====
theorem erase_lp (r_co : Nat → Int32) : ∀ (d i n : Nat) (ta : Nat → Int32), i + d = 64 → d < n → ∃ ta', f_Co_erase_2 n r_co ta (nI i) = some ta' ∧ (∀ j, i ≤ j → j < 64 → ta' j = nI 0) ∧ ∀ j, j < i → ta' j = ta j
  | 0, i, n + 1, ta, hi, hn => ⟨ta, by rw [f_Co_erase_2]; simp (disch := omega) only [lI, nI_add, pk_mul, nI_leI, nI_ltI, nI_eq, ck_n, nm_n, nI_clamp, Option.bind_some, if_pos, if_neg, bk_n0, bk_n1, nI_sub, upd_s, mi_e, mi_ne, mi_ne2, mi_lt, mi_le, mi_nle, mi_nlt, mi_s, bt_shrE, bit_e, true_and, and_true, if_true, if_false, ne_eq, not_true_eq_false, not_false_eq_true, Bool.false_eq_true, Bool.true_eq_false, reduceCtorEq], fun j h1 h2 => by omega, fun j hj => rfl⟩
  | d + 1, i, n + 1, ta, hi, hn => by
    obtain ⟨ta', h1, h2, h3⟩ := erase_lp r_co d (i + 1) n (upd ta i (nI 0)) (by omega) (by omega)
    refine ⟨ta', ?_, fun j hj1 hj2 => ?_, fun j hj => ?_⟩
    · rw [f_Co_erase_2]; simp (disch := omega) only [lI, nI_add, pk_mul, nI_leI, nI_ltI, nI_eq, ck_n, nm_n, nI_clamp, Option.bind_some, if_pos, if_neg, bk_n0, bk_n1, nI_sub, upd_s, mi_e, mi_ne, mi_ne2, mi_lt, mi_le, mi_nle, mi_nlt, mi_s, bt_shrE, bit_e, true_and, and_true, if_true, if_false, ne_eq, not_true_eq_false, not_false_eq_true, Bool.false_eq_true, Bool.true_eq_false, reduceCtorEq, h1]
    · by_cases e : j = i
      · subst e; rw [h3 j (by omega), upd_s]
      · exact h2 j (by omega) hj2
    · rw [h3 j (by omega), upd_n (by omega)]
theorem mclear_lp (mo : Nat → Int32) : ∀ (d i n : Nat) (mc : Nat → Int32), i + d = 256 → d < n → ∃ mc', f_Mo_clear_7 n mo mc (nI i) = some (mo, mc') ∧ (∀ j, i ≤ j → j < 256 → mc' (4 * j) = mi) ∧ ∀ j, j < 4 * i → mc' j = mc j
  | 0, i, n + 1, mc, hi, hn => ⟨mc, by rw [f_Mo_clear_7]; simp (disch := omega) only [lI, nI_add, pk_mul, nI_leI, nI_ltI, nI_eq, ck_n, nm_n, nI_clamp, Option.bind_some, if_pos, if_neg, bk_n0, bk_n1, nI_sub, upd_s, mi_e, mi_ne, mi_ne2, mi_lt, mi_le, mi_nle, mi_nlt, mi_s, bt_shrE, bit_e, true_and, and_true, if_true, if_false, ne_eq, not_true_eq_false, not_false_eq_true, Bool.false_eq_true, Bool.true_eq_false, reduceCtorEq], fun j h1 h2 => by omega, fun j hj => rfl⟩
  | d + 1, i, n + 1, mc, hi, hn => by
    obtain ⟨mc', h1, h2, h3⟩ := mclear_lp mo d (i + 1) n (upd mc (4 * i) mi) (by omega) (by omega)
    refine ⟨mc', ?_, fun j hj1 hj2 => ?_, fun j hj => ?_⟩
    · rw [f_Mo_clear_7]; simp (disch := omega) only [lI, nI_add, pk_mul, nI_leI, nI_ltI, nI_eq, ck_n, nm_n, nI_clamp, Option.bind_some, if_pos, if_neg, bk_n0, bk_n1, nI_sub, upd_s, mi_e, mi_ne, mi_ne2, mi_lt, mi_le, mi_nle, mi_nlt, mi_s, bt_shrE, bit_e, true_and, and_true, if_true, if_false, ne_eq, not_true_eq_false, not_false_eq_true, Bool.false_eq_true, Bool.true_eq_false, reduceCtorEq, h1]
    · by_cases e : j = i
      · subst e; rw [h3 (4 * j) (by omega), upd_s]
      · exact h2 j (by omega) hj2
    · rw [h3 j (by omega), upd_n (by omega)]
def knone : KT := fun _ _ => none
theorem RC_none {B : Nat} (hB : BV B) {ta gu so cn de mc : Nat → Int32} (h1 : ∀ j, j < 64 → ta j = nI 0) (h2 : ∀ j, j < 256 → mc (4 * j) = mi) : RC B knone ta gu so cn de mc := by
  refine ⟨hB, fun c hc => ⟨⟨0, by omega, h1 c hc, fun b _ => ?_⟩, fun b _ g s k d he => ?_⟩, fun c hc b hb => ⟨fun _ => ?_, fun g s k d he => ?_⟩, fun c hc b hb g s k d he => ?_⟩
  · simp [knone]
  · cases he
  · have := h2 (4 * c + b) (by omega)
    rw [show 4 * (4 * c + b) = 16 * c + 4 * b by omega] at this
    exact this
  · cases he
  · cases he
theorem case_clear {B : Nat} {K : KT} {r_md r_co ta gu so cn de r_mo mc : Nat → Int32} (h : RC B K ta gu so cn de mc) :
    ∃ ta' mc', f_Md_clear r_md r_co ta = some ta' ∧ f_Mo_clear r_mo mc = some (upd r_mo 0 0, mc') ∧ RC B knone ta' gu so cn de mc' := by
  obtain ⟨ta', a1, a2, _⟩ := erase_lp r_co 64 0 5000 ta (by omega) (by omega)
  obtain ⟨mc', b1, b2, _⟩ := mclear_lp (upd r_mo 0 0) 256 0 5000 mc (by omega) (by omega)
  refine ⟨ta', mc', ?_, b1, RC_none h.1 (fun j hj => a2 j (by omega) hj) (fun j hj => b2 j (by omega) hj)⟩
  unfold f_Md_clear f_Co_erase
  rw [show (0 : Int32) = nI 0 from rfl, a1]; rfl
-- ===== reset =====
theorem restart_n (n : Nat) (ma od rs : Nat → Int32) : f_Ma_restart_2 (n + 1 + 1 + 1 + 1) ma od rs (nI 0) = some (upd (upd (upd (upd (upd (upd (upd (upd ma 8 0) 9 0) 10 0) 11 0) 12 0) 13 0) 14 0) 15 0, upd (upd (upd od 0 0) 1 0) 2 0, upd (upd (upd rs 0 0) 1 0) 2 0) := by
  rw [f_Ma_restart_2]; simp (disch := omega) only [lI, nI_add, pk_mul, nI_leI, nI_ltI, nI_eq, ck_n, nm_n, nI_clamp, Option.bind_some, if_pos, if_neg, bk_n0, bk_n1, nI_sub, upd_s, mi_e, mi_ne, mi_ne2, mi_lt, mi_le, mi_nle, mi_nlt, mi_s, bt_shrE, bit_e, true_and, and_true, if_true, if_false, ne_eq, not_true_eq_false, not_false_eq_true, Bool.false_eq_true, Bool.true_eq_false, reduceCtorEq]
  rw [f_Ma_restart_2]; simp (disch := omega) only [lI, nI_add, pk_mul, nI_leI, nI_ltI, nI_eq, ck_n, nm_n, nI_clamp, Option.bind_some, if_pos, if_neg, bk_n0, bk_n1, nI_sub, upd_s, mi_e, mi_ne, mi_ne2, mi_lt, mi_le, mi_nle, mi_nlt, mi_s, bt_shrE, bit_e, true_and, and_true, if_true, if_false, ne_eq, not_true_eq_false, not_false_eq_true, Bool.false_eq_true, Bool.true_eq_false, reduceCtorEq]
  rw [f_Ma_restart_2]; simp (disch := omega) only [lI, nI_add, pk_mul, nI_leI, nI_ltI, nI_eq, ck_n, nm_n, nI_clamp, Option.bind_some, if_pos, if_neg, bk_n0, bk_n1, nI_sub, upd_s, mi_e, mi_ne, mi_ne2, mi_lt, mi_le, mi_nle, mi_nlt, mi_s, bt_shrE, bit_e, true_and, and_true, if_true, if_false, ne_eq, not_true_eq_false, not_false_eq_true, Bool.false_eq_true, Bool.true_eq_false, reduceCtorEq]
  rw [f_Ma_restart_2]; simp (disch := omega) only [lI, nI_add, pk_mul, nI_leI, nI_ltI, nI_eq, ck_n, nm_n, nI_clamp, Option.bind_some, if_pos, if_neg, bk_n0, bk_n1, nI_sub, upd_s, mi_e, mi_ne, mi_ne2, mi_lt, mi_le, mi_nle, mi_nlt, mi_s, bt_shrE, bit_e, true_and, and_true, if_true, if_false, ne_eq, not_true_eq_false, not_false_eq_true, Bool.false_eq_true, Bool.true_eq_false, reduceCtorEq]
theorem mreset_n (n : Nat) (mo mopd mres mhad : Nat → Int32) : f_Mo_reset_32 (n + 1 + 1 + 1 + 1) mo mopd mres mhad (nI 0) = some (mo, upd (upd (upd mopd 0 0) 1 0) 2 0, upd (upd (upd mres 0 0) 1 0) 2 0, upd (upd (upd mhad 0 0) 1 0) 2 0) := by
  rw [f_Mo_reset_32]; simp (disch := omega) only [lI, nI_add, pk_mul, nI_leI, nI_ltI, nI_eq, ck_n, nm_n, nI_clamp, Option.bind_some, if_pos, if_neg, bk_n0, bk_n1, nI_sub, upd_s, mi_e, mi_ne, mi_ne2, mi_lt, mi_le, mi_nle, mi_nlt, mi_s, bt_shrE, bit_e, true_and, and_true, if_true, if_false, ne_eq, not_true_eq_false, not_false_eq_true, Bool.false_eq_true, Bool.true_eq_false, reduceCtorEq]
  rw [f_Mo_reset_32]; simp (disch := omega) only [lI, nI_add, pk_mul, nI_leI, nI_ltI, nI_eq, ck_n, nm_n, nI_clamp, Option.bind_some, if_pos, if_neg, bk_n0, bk_n1, nI_sub, upd_s, mi_e, mi_ne, mi_ne2, mi_lt, mi_le, mi_nle, mi_nlt, mi_s, bt_shrE, bit_e, true_and, and_true, if_true, if_false, ne_eq, not_true_eq_false, not_false_eq_true, Bool.false_eq_true, Bool.true_eq_false, reduceCtorEq]
  rw [f_Mo_reset_32]; simp (disch := omega) only [lI, nI_add, pk_mul, nI_leI, nI_ltI, nI_eq, ck_n, nm_n, nI_clamp, Option.bind_some, if_pos, if_neg, bk_n0, bk_n1, nI_sub, upd_s, mi_e, mi_ne, mi_ne2, mi_lt, mi_le, mi_nle, mi_nlt, mi_s, bt_shrE, bit_e, true_and, and_true, if_true, if_false, ne_eq, not_true_eq_false, not_false_eq_true, Bool.false_eq_true, Bool.true_eq_false, reduceCtorEq]
  rw [f_Mo_reset_32]; simp (disch := omega) only [lI, nI_add, pk_mul, nI_leI, nI_ltI, nI_eq, ck_n, nm_n, nI_clamp, Option.bind_some, if_pos, if_neg, bk_n0, bk_n1, nI_sub, upd_s, mi_e, mi_ne, mi_ne2, mi_lt, mi_le, mi_nle, mi_nlt, mi_s, bt_shrE, bit_e, true_and, and_true, if_true, if_false, ne_eq, not_true_eq_false, not_false_eq_true, Bool.false_eq_true, Bool.true_eq_false, reduceCtorEq]
theorem case_reset {ma od rs mo mopd mres mhad : Nat → Int32} :
    ∃ ma' od' rs' mo' mopd' mres' mhad', f_Ma_restart ma od rs = some (ma', od', rs') ∧ f_Mo_reset mo mopd mres mhad = some (mo', mopd', mres', mhad') ∧ RM ma' od' rs' mo' mopd' mres' mhad' ∧ ma' 8 = nI 0 ∧ ma' 9 = nI 0 ∧ mo' 15 = nI 0 ∧ ∀ j, j ≠ 0 → j ≠ 10 → j ≠ 9 → j ≠ 15 → j ≠ 11 → j ≠ 14 → mo' j = mo j := by
  have e1 : f_Ma_restart ma od rs = some (upd (upd (upd (upd (upd (upd (upd (upd ma 8 0) 9 0) 10 0) 11 0) 12 0) 13 0) 14 0) 15 0, upd (upd (upd od 0 0) 1 0) 2 0, upd (upd (upd rs 0 0) 1 0) 2 0) := restart_n 4996 ma od rs
  have e2 : f_Mo_reset mo mopd mres mhad = some (upd (upd (upd (upd (upd (upd mo 0 0) 10 0) 9 0) 15 0) 11 0) 14 0, upd (upd (upd mopd 0 0) 1 0) 2 0, upd (upd (upd mres 0 0) 1 0) 2 0, upd (upd (upd mhad 0 0) 1 0) 2 0) := mreset_n 4996 _ mopd mres mhad
  refine ⟨_, _, _, _, _, _, _, e1, e2, ⟨fun u hu => ?_, fun u hu => ?_, fun u hu => ?_, fun i _ _ => ?_, ?_, ⟨0, by omega, ?_, ?_⟩, ⟨0, by omega, ?_, ?_, fun h => by omega⟩, ⟨0, by omega, ?_, ?_⟩⟩, ?_, ?_, ?_, fun j h0 h10 h9 h15 h11 h14 => ?_⟩
  · rcases (show u = 0 ∨ u = 1 ∨ u = 2 by omega) with rfl | rfl | rfl <;> rfl
  · rcases (show u = 0 ∨ u = 1 ∨ u = 2 by omega) with rfl | rfl | rfl <;> rfl
  · have : ∀ u, bt (upd (upd (upd (upd (upd (upd (upd (upd ma 8 0) 9 0) 10 0) 11 0) 12 0) 13 0) 14 0) 15 0 10) u = false := fun u => bt_zero u
    rw [this]
    rcases (show u = 0 ∨ u = 1 ∨ u = 2 by omega) with rfl | rfl | rfl <;> rfl
  · exact bt_zero i
  · rfl
  · rfl
  · rfl
  · rfl
  · rfl
  · rfl
  · rfl
  · rfl
  · rfl
  · rfl
  · rw [upd_n h14, upd_n h11, upd_n h15, upd_n h9, upd_n h10, upd_n h0]
