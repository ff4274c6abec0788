-- ===== sources =====
def srcV (wo rs : Nat → Int32) (s : Nat) (k : Int32) : Int32 := if s < 8 then wo s else if s < 11 then rs (s - 8) else k
theorem has_n (x : Int32) {b : Nat} (hb : b < 32) : f_Ma_has x (nI b) = some (b2i (bt x b)) := by
  unfold f_Ma_has
  simp (disch := omega) only [lI, nI_add, pk_mul, nI_leI, nI_ltI, nI_eq, ck_n, nm_n, nI_clamp, Option.bind_some, if_pos, if_neg, bk_n0, bk_n1, nI_sub, upd_s, mi_e, mi_ne, mi_ne2, mi_lt, mi_le, mi_nle, mi_nlt, mi_s, bt_shrE, bit_e, true_and, and_true, if_true, if_false, ne_eq, not_true_eq_false, not_false_eq_true, Bool.false_eq_true, Bool.true_eq_false, reduceCtorEq]
  cases bt x b
  · simp (disch := omega) only [lI, nI_add, pk_mul, nI_leI, nI_ltI, nI_eq, ck_n, nm_n, nI_clamp, Option.bind_some, if_pos, if_neg, bk_n0, bk_n1, nI_sub, upd_s, mi_e, mi_ne, mi_ne2, mi_lt, mi_le, mi_nle, mi_nlt, mi_s, bt_shrE, bit_e, true_and, and_true, if_true, if_false, ne_eq, not_true_eq_false, not_false_eq_true, Bool.false_eq_true, Bool.true_eq_false, reduceCtorEq, b2i_f]
  · simp (disch := omega) only [lI, nI_add, pk_mul, nI_leI, nI_ltI, nI_eq, ck_n, nm_n, nI_clamp, Option.bind_some, if_pos, if_neg, bk_n0, bk_n1, nI_sub, upd_s, mi_e, mi_ne, mi_ne2, mi_lt, mi_le, mi_nle, mi_nlt, mi_s, bt_shrE, bit_e, true_and, and_true, if_true, if_false, ne_eq, not_true_eq_false, not_false_eq_true, Bool.false_eq_true, Bool.true_eq_false, reduceCtorEq, b2i_t]
/-- the mask of the moves made -/
def MK (M : MT) (x : Int32) : Prop := ∀ b, b < 4 → bt x b = (M b).isSome
theorem readS_lp {M : MT} {c : Nat} {r_co so cn de mc ma wo rs : Nat → Int32} {x : Int32} (h : MC M c so cn de mc) (hc : c < 64) (hx : MK M x) (hp : ma 12 = nI c) : ∀ (d i n : Nat) (ca : Nat → Int32), i + d = 4 → d < n → ∃ ca', f_Ma_readSources_2 n r_co so cn ma wo rs ca x (nI i) = some ca' ∧ (∀ b, i ≤ b → b < 4 → ∀ s k dd, M b = some (s, k, dd) → ca' b = srcV wo rs s k) ∧ ∀ b, b < i → ca' b = ca b
  | 0, i, n + 1, ca, hi, hn => ⟨ca, by rw [f_Ma_readSources_2]; simp (disch := omega) only [lI, nI_add, pk_mul, nI_leI, nI_ltI, nI_eq, ck_n, nm_n, nI_clamp, Option.bind_some, if_pos, if_neg, bk_n0, bk_n1, nI_sub, upd_s, mi_e, mi_ne, mi_ne2, mi_lt, mi_le, mi_nle, mi_nlt, mi_s, bt_shrE, bit_e, true_and, and_true, if_true, if_false, ne_eq, not_true_eq_false, not_false_eq_true, Bool.false_eq_true, Bool.true_eq_false, reduceCtorEq], fun b h1 h2 => by omega, fun b _ => rfl⟩
  | d + 1, i, n + 1, ca, hi, hn => by
    have hb := hx i (by omega)
    rw [f_Ma_readSources_2]
    unfold f_Ma_readSources_49 f_Co_source f_Co_constant f_Ma_valueOf
    rcases hM : M i with _ | ⟨s, k, dd⟩
    · obtain ⟨ca', e1, e2, e3⟩ := readS_lp (r_co := r_co) (wo := wo) (rs := rs) h hc hx hp d (i + 1) n ca (by omega) (by omega)
      rw [hM] at hb
      refine ⟨ca', ?_, fun b h1 h2 s k dd hb2 => ?_, fun b hb2 => e3 b (by omega)⟩
      · simp (disch := omega) only [lI, nI_add, pk_mul, nI_leI, nI_ltI, nI_eq, ck_n, nm_n, nI_clamp, Option.bind_some, if_pos, if_neg, bk_n0, bk_n1, nI_sub, upd_s, mi_e, mi_ne, mi_ne2, mi_lt, mi_le, mi_nle, mi_nlt, mi_s, bt_shrE, bit_e, true_and, and_true, if_true, if_false, ne_eq, not_true_eq_false, not_false_eq_true, Bool.false_eq_true, Bool.true_eq_false, reduceCtorEq, has_n, hb, b2i_0, Option.isSome_none, e1]
      · by_cases e : b = i
        · subst e; rw [hM] at hb2; cases hb2
        · exact e2 b (by omega) h2 s k dd hb2
    · obtain ⟨ca', e1, e2, e3⟩ := readS_lp (r_co := r_co) (wo := wo) (rs := rs) h hc hx hp d (i + 1) n (upd ca i (srcV wo rs s k)) (by omega) (by omega)
      obtain ⟨a1, a2, a3, _, _, _, hs, hd⟩ := h i (by omega) s k dd hM
      rw [hM] at hb
      refine ⟨ca', ?_, fun b h1 h2 s' k' dd' hb2 => ?_, fun b hb2 => by rw [e3 b (by omega), upd_n (by omega)]⟩
      · unfold srcV at e1
        by_cases h8 : s < 8
        · rw [if_pos h8] at e1
          simp (disch := omega) only [lI, nI_add, pk_mul, nI_leI, nI_ltI, nI_eq, ck_n, nm_n, nI_clamp, Option.bind_some, if_pos, if_neg, bk_n0, bk_n1, nI_sub, upd_s, mi_e, mi_ne, mi_ne2, mi_lt, mi_le, mi_nle, mi_nlt, mi_s, bt_shrE, bit_e, true_and, and_true, if_true, if_false, ne_eq, not_true_eq_false, not_false_eq_true, Bool.false_eq_true, Bool.true_eq_false, reduceCtorEq, has_n, hb, b2i_0, Option.isSome_some, hp, a1, a2, e1]
        · rw [if_neg h8] at e1
          by_cases h11 : s < 11
          · rw [if_pos h11] at e1
            simp (disch := omega) only [lI, nI_add, pk_mul, nI_leI, nI_ltI, nI_eq, ck_n, nm_n, nI_clamp, Option.bind_some, if_pos, if_neg, bk_n0, bk_n1, nI_sub, upd_s, mi_e, mi_ne, mi_ne2, mi_lt, mi_le, mi_nle, mi_nlt, mi_s, bt_shrE, bit_e, true_and, and_true, if_true, if_false, ne_eq, not_true_eq_false, not_false_eq_true, Bool.false_eq_true, Bool.true_eq_false, reduceCtorEq, has_n, hb, b2i_0, Option.isSome_some, hp, a1, a2, e1]
          · rw [if_neg h11] at e1
            simp (disch := omega) only [lI, nI_add, pk_mul, nI_leI, nI_ltI, nI_eq, ck_n, nm_n, nI_clamp, Option.bind_some, if_pos, if_neg, bk_n0, bk_n1, nI_sub, upd_s, mi_e, mi_ne, mi_ne2, mi_lt, mi_le, mi_nle, mi_nlt, mi_s, bt_shrE, bit_e, true_and, and_true, if_true, if_false, ne_eq, not_true_eq_false, not_false_eq_true, Bool.false_eq_true, Bool.true_eq_false, reduceCtorEq, has_n, hb, b2i_0, Option.isSome_some, hp, a1, a2, e1]
      · by_cases e : b = i
        · subst e
          rw [hM] at hb2; cases hb2
          rw [e3 b (by omega), upd_s]
        · exact e2 b (by omega) h2 s' k' dd' hb2
theorem mread_lp {M : MT} {c : Nat} {so cn de mo mlat mc mreg mmem mopd mres mhad mfu mfv mfi md wo rs : Nat → Int32} (h : MC M c so cn de mc) (hc : c < 64) (hm : MD M md) (hw : RW wo mreg mmem) (hr : ∀ u, u < 3 → rs u = mres u) : ∀ (d i n : Nat) (va : Nat → Int32), i + d = 4 → d < n → (∀ b, b < i → ∀ s k dd, M b = some (s, k, dd) → va b = srcV wo rs s k) → ∃ va', (∀ b, b < 4 → ∀ s k dd, M b = some (s, k, dd) → va' b = srcV wo rs s k) ∧ f_Mo_makeCycle_7 n mo mlat mc mreg mmem mopd mres mhad mfu mfv mfi md va (nI c) (nI i) = f_Mo_makeCycle_48 5000 mo mlat mc mreg mmem mopd mres mhad mfu mfv mfi md va' (nI c) (nI 0)
  | 0, i, n + 1, va, hi, hn, hv => ⟨va, fun b hb => hv b (by omega), by rw [f_Mo_makeCycle_7]; simp (disch := omega) only [lI, nI_add, pk_mul, nI_leI, nI_ltI, nI_eq, ck_n, nm_n, nI_clamp, Option.bind_some, if_pos, if_neg, bk_n0, bk_n1, nI_sub, upd_s, mi_e, mi_ne, mi_ne2, mi_lt, mi_le, mi_nle, mi_nlt, mi_s, bt_shrE, bit_e, true_and, and_true, if_true, if_false, ne_eq, not_true_eq_false, not_false_eq_true, Bool.false_eq_true, Bool.true_eq_false, reduceCtorEq]⟩
  | d + 1, i, n + 1, va, hi, hn, hv => by
    have hb := hm i (by omega)
    rw [f_Mo_makeCycle_7]
    unfold f_Mo_makeCycle_40 f_Mo_sourceOf
    rcases hM : M i with _ | ⟨s, k, dd⟩
    · rw [hM] at hb
      simp (disch := omega) only [lI, nI_add, pk_mul, nI_leI, nI_ltI, nI_eq, ck_n, nm_n, nI_clamp, Option.bind_some, if_pos, if_neg, bk_n0, bk_n1, nI_sub, upd_s, mi_e, mi_ne, mi_ne2, mi_lt, mi_le, mi_nle, mi_nlt, mi_s, bt_shrE, bit_e, true_and, and_true, if_true, if_false, ne_eq, not_true_eq_false, not_false_eq_true, Bool.false_eq_true, Bool.true_eq_false, reduceCtorEq, hb, b2i_0, Option.isSome_none]
      refine mread_lp h hc hm hw hr d (i + 1) n _ (by omega) (by omega) (fun b hb2 s k dd hb3 => ?_)
      by_cases e : b = i
      · subst e; rw [hM] at hb3; cases hb3
      · rw [upd_n e]; exact hv b (by omega) s k dd hb3
    · obtain ⟨_, _, _, a1, a2, a3, hs, hd⟩ := h i (by omega) s k dd hM
      rw [hM] at hb
      have go : ∃ va', (∀ b, b < 4 → ∀ s k dd, M b = some (s, k, dd) → va' b = srcV wo rs s k) ∧ f_Mo_makeCycle_7 n mo mlat mc mreg mmem mopd mres mhad mfu mfv mfi md (upd va i (srcV wo rs s k)) (nI c) (nI (i + 1)) = f_Mo_makeCycle_48 5000 mo mlat mc mreg mmem mopd mres mhad mfu mfv mfi md va' (nI c) (nI 0) := by
        refine mread_lp h hc hm hw hr d (i + 1) n _ (by omega) (by omega) (fun b hb2 s' k' dd' hb3 => ?_)
        by_cases e : b = i
        · subst e; rw [hM] at hb3; cases hb3; rw [upd_s]
        · rw [upd_n e]; exact hv b (by omega) s' k' dd' hb3
      unfold srcV at go ⊢
      by_cases h8 : s < 8
      · simp (disch := omega) only [lI, nI_add, pk_mul, nI_leI, nI_ltI, nI_eq, ck_n, nm_n, nI_clamp, Option.bind_some, if_pos, if_neg, bk_n0, bk_n1, nI_sub, upd_s, mi_e, mi_ne, mi_ne2, mi_lt, mi_le, mi_nle, mi_nlt, mi_s, bt_shrE, bit_e, true_and, and_true, if_true, if_false, ne_eq, not_true_eq_false, not_false_eq_true, Bool.false_eq_true, Bool.true_eq_false, reduceCtorEq, hb, b2i_0, Option.isSome_some, at_n, a1, ← hw.1 s h8]
        rw [if_pos h8] at go; exact go
      · rw [if_neg h8] at go
        by_cases h11 : s < 11
        · simp (disch := omega) only [lI, nI_add, pk_mul, nI_leI, nI_ltI, nI_eq, ck_n, nm_n, nI_clamp, Option.bind_some, if_pos, if_neg, bk_n0, bk_n1, nI_sub, upd_s, mi_e, mi_ne, mi_ne2, mi_lt, mi_le, mi_nle, mi_nlt, mi_s, bt_shrE, bit_e, true_and, and_true, if_true, if_false, ne_eq, not_true_eq_false, not_false_eq_true, Bool.false_eq_true, Bool.true_eq_false, reduceCtorEq, hb, b2i_0, Option.isSome_some, at_n, a1, ← hr (s - 8) (by omega)]
          rw [if_pos h11] at go; exact go
        · simp (disch := omega) only [lI, nI_add, pk_mul, nI_leI, nI_ltI, nI_eq, ck_n, nm_n, nI_clamp, Option.bind_some, if_pos, if_neg, bk_n0, bk_n1, nI_sub, upd_s, mi_e, mi_ne, mi_ne2, mi_lt, mi_le, mi_nle, mi_nlt, mi_s, bt_shrE, bit_e, true_and, and_true, if_true, if_false, ne_eq, not_true_eq_false, not_false_eq_true, Bool.false_eq_true, Bool.true_eq_false, reduceCtorEq, hb, b2i_0, Option.isSome_some, at_n, a1, a2]
          rw [if_neg h11] at go; exact go
-- ===== places =====
theorem writeP_lp {M : MT} {c : Nat} {r_co so cn de mo mlat mc mmem mres mhad mfu mfv mfi md va ma ca : Nat → Int32} {x : Int32} (h : MC M c so cn de mc) (hc : c < 64) (hx : MK M x) (hm : MD M md) (hp : ma 12 = nI c) (hv : ∀ b, b < 4 → (M b).isSome = true → ca b = va b) : ∀ (d i n n' : Nat) (wo od mreg mopd : Nat → Int32), i + d = 4 → d < n → d < n' → RW wo mreg mmem → (∀ u, u < 3 → od u = mopd u) → ∃ wo' od' mreg' mopd', f_Ma_writePlaces_2 n r_co de ma wo od ca x (nI i) = some (wo', od') ∧ f_Mo_makeCycle_48 n' mo mlat mc mreg mmem mopd mres mhad mfu mfv mfi md va (nI c) (nI i) = f_Mo_makeCycle_136 5000 mo mlat mc mreg' mmem mopd' mres mhad mfu mfv mfi md va (nI c) (nI 0) ∧ RW wo' mreg' mmem ∧ ∀ u, u < 3 → od' u = mopd' u
  | 0, i, n + 1, n' + 1, wo, od, mreg, mopd, hi, hn, hn', hw, ho => ⟨wo, od, mreg, mopd, by rw [f_Ma_writePlaces_2]; simp (disch := omega) only [lI, nI_add, pk_mul, nI_leI, nI_ltI, nI_eq, ck_n, nm_n, nI_clamp, Option.bind_some, if_pos, if_neg, bk_n0, bk_n1, nI_sub, upd_s, mi_e, mi_ne, mi_ne2, mi_lt, mi_le, mi_nle, mi_nlt, mi_s, bt_shrE, bit_e, true_and, and_true, if_true, if_false, ne_eq, not_true_eq_false, not_false_eq_true, Bool.false_eq_true, Bool.true_eq_false, reduceCtorEq], by rw [f_Mo_makeCycle_48]; simp (disch := omega) only [lI, nI_add, pk_mul, nI_leI, nI_ltI, nI_eq, ck_n, nm_n, nI_clamp, Option.bind_some, if_pos, if_neg, bk_n0, bk_n1, nI_sub, upd_s, mi_e, mi_ne, mi_ne2, mi_lt, mi_le, mi_nle, mi_nlt, mi_s, bt_shrE, bit_e, true_and, and_true, if_true, if_false, ne_eq, not_true_eq_false, not_false_eq_true, Bool.false_eq_true, Bool.true_eq_false, reduceCtorEq], hw, ho⟩
  | d + 1, i, n + 1, n' + 1, wo, od, mreg, mopd, hi, hn, hn', hw, ho => by
    have hb := hm i (by omega)
    have hb2 := hx i (by omega)
    have go := writeP_lp (r_co := r_co) (mo := mo) (mlat := mlat) (mmem := mmem) (mres := mres) (mhad := mhad) (mfu := mfu) (mfv := mfv) (mfi := mfi) h hc hx hm hp hv d (i + 1) n n'
    rw [f_Ma_writePlaces_2, f_Mo_makeCycle_48]
    unfold f_Ma_writePlaces_33 f_Ma_writePlaces_75 f_Co_destination f_Mo_makeCycle_79 f_Mo_makeCycle_101 f_Mo_makeCycle_128
    rcases hM : M i with _ | ⟨s, k, dd⟩
    · rw [hM] at hb hb2
      simp (disch := omega) only [lI, nI_add, pk_mul, nI_leI, nI_ltI, nI_eq, ck_n, nm_n, nI_clamp, Option.bind_some, if_pos, if_neg, bk_n0, bk_n1, nI_sub, upd_s, mi_e, mi_ne, mi_ne2, mi_lt, mi_le, mi_nle, mi_nlt, mi_s, bt_shrE, bit_e, true_and, and_true, if_true, if_false, ne_eq, not_true_eq_false, not_false_eq_true, Bool.false_eq_true, Bool.true_eq_false, reduceCtorEq, hb, has_n, hb2, b2i_0, Option.isSome_none]
      exact go wo od mreg mopd (by omega) (by omega) (by omega) hw ho
    · obtain ⟨_, _, b3, a1, a2, a3, hs, hd⟩ := h i (by omega) s k dd hM
      have hv2 := hv i (by omega) (by rw [hM]; rfl)
      rw [hM] at hb hb2
      by_cases h8 : dd < 8
      · simp (disch := omega) only [lI, nI_add, pk_mul, nI_leI, nI_ltI, nI_eq, ck_n, nm_n, nI_clamp, Option.bind_some, if_pos, if_neg, bk_n0, bk_n1, nI_sub, upd_s, mi_e, mi_ne, mi_ne2, mi_lt, mi_le, mi_nle, mi_nlt, mi_s, bt_shrE, bit_e, true_and, and_true, if_true, if_false, ne_eq, not_true_eq_false, not_false_eq_true, Bool.false_eq_true, Bool.true_eq_false, reduceCtorEq, hb, has_n, hb2, b2i_0, Option.isSome_some, at_n, a3, hp, b3, hv2]
        exact go (upd wo dd (va i)) od (upd mreg dd (va i)) mopd (by omega) (by omega) (by omega) ((RW_upd hw (by omega) _).1 h8) ho
      · by_cases h11 : dd < 11
        · simp (disch := omega) only [lI, nI_add, pk_mul, nI_leI, nI_ltI, nI_eq, ck_n, nm_n, nI_clamp, Option.bind_some, if_pos, if_neg, bk_n0, bk_n1, nI_sub, upd_s, mi_e, mi_ne, mi_ne2, mi_lt, mi_le, mi_nle, mi_nlt, mi_s, bt_shrE, bit_e, true_and, and_true, if_true, if_false, ne_eq, not_true_eq_false, not_false_eq_true, Bool.false_eq_true, Bool.true_eq_false, reduceCtorEq, hb, has_n, hb2, b2i_0, Option.isSome_some, at_n, a3, hp, b3, hv2]
          refine go wo (upd od (dd - 8) (va i)) mreg (upd mopd (dd - 8) (va i)) (by omega) (by omega) (by omega) hw (fun u hu => ?_)
          by_cases e : u = dd - 8
          · subst e; rw [upd_s, upd_s]
          · rw [upd_n e, upd_n e]; exact ho u hu
        · simp (disch := omega) only [lI, nI_add, pk_mul, nI_leI, nI_ltI, nI_eq, ck_n, nm_n, nI_clamp, Option.bind_some, if_pos, if_neg, bk_n0, bk_n1, nI_sub, upd_s, mi_e, mi_ne, mi_ne2, mi_lt, mi_le, mi_nle, mi_nlt, mi_s, bt_shrE, bit_e, true_and, and_true, if_true, if_false, ne_eq, not_true_eq_false, not_false_eq_true, Bool.false_eq_true, Bool.true_eq_false, reduceCtorEq, hb, has_n, hb2, b2i_0, Option.isSome_some, at_n, a3, hp, b3, hv2]
          exact go wo od mreg mopd (by omega) (by omega) (by omega) hw ho
