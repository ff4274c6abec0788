-- ===== the moves that are made =====
abbrev MT : Type := Nat → Option (Nat × Int32 × Nat)
def b2i (b : Bool) : Int32 := if b = true then nI 1 else nI 0
theorem b2i_t : b2i true = nI 1 := rfl
theorem b2i_f : b2i false = nI 0 := rfl
theorem b2i_0 (b : Bool) : (b2i b = nI 0) = (b = false) := by cases b <;> simp [b2i] <;> decide
def allow (g : Nat) (x : Int32) : Bool := if g = 0 then true else if g < 5 then bt x (g - 1) else !bt x (g - 5)
def mv (K : KT) (c : Nat) (x : Int32) : MT := fun b => match K c b with
  | none => none
  | some (g, s, k, d) => if allow g x = true then some (s, k, d) else none
theorem bt1 (x : Int32) {t : Nat} (ht : t < 32) : ((x >>> (nI t &&& nI 31)) &&& nI 1 = nI 1) = (bt x t = true) := by
  rw [bt_shr1E x ht]
  cases bt x t
  · simp; decide
  · simp
theorem allows_n {g : Nat} (hg : g ≤ 8) (x : Int32) : f_Co_allows (nI g) x = some (b2i (allow g x)) := by
  unfold f_Co_allows allow
  by_cases h0 : g = 0
  · subst h0; simp (disch := omega) only [lI, nI_add, pk_mul, nI_leI, nI_ltI, nI_eq, ck_n, nm_n, nI_clamp, Option.bind_some, if_pos, if_neg, bk_n0, bk_n1, nI_sub, upd_s, mi_e, mi_ne, mi_ne2, mi_lt, mi_le, mi_nle, mi_nlt, mi_s, bt_shrE, bit_e, true_and, and_true, if_true, if_false, ne_eq, not_true_eq_false, not_false_eq_true, Bool.false_eq_true, Bool.true_eq_false, reduceCtorEq]; rfl
  · by_cases h5 : g < 5
    · simp (disch := omega) only [lI, nI_add, pk_mul, nI_leI, nI_ltI, nI_eq, ck_n, nm_n, nI_clamp, Option.bind_some, if_pos, if_neg, bk_n0, bk_n1, nI_sub, upd_s, mi_e, mi_ne, mi_ne2, mi_lt, mi_le, mi_nle, mi_nlt, mi_s, bt_shrE, bit_e, true_and, and_true, if_true, if_false, ne_eq, not_true_eq_false, not_false_eq_true, Bool.false_eq_true, Bool.true_eq_false, reduceCtorEq, bt1, h0]
      cases bt x (g - 1) <;> rfl
    · simp (disch := omega) only [lI, nI_add, pk_mul, nI_leI, nI_ltI, nI_eq, ck_n, nm_n, nI_clamp, Option.bind_some, if_pos, if_neg, bk_n0, bk_n1, nI_sub, upd_s, mi_e, mi_ne, mi_ne2, mi_lt, mi_le, mi_nle, mi_nlt, mi_s, bt_shrE, bit_e, true_and, and_true, if_true, if_false, ne_eq, not_true_eq_false, not_false_eq_true, Bool.false_eq_true, Bool.true_eq_false, reduceCtorEq, h0]
      cases bt x (g - 5) <;> rfl
theorem allows_any (v x : Int32) : ∃ y, f_Co_allows v x = some y := by
  unfold f_Co_allows
  split
  · exact ⟨_, rfl⟩
  · split
    · split <;> exact ⟨_, rfl⟩
    · split <;> exact ⟨_, rfl⟩
theorem bit_e2 {t : Nat} : (1 : Int32) <<< (nI t &&& 31) = bit t := rfl
theorem made_lp {B : Nat} {K : KT} {r_co ta gu so cn de mc : Nat → Int32} (h : RC B K ta gu so cn de mc) (hB : r_co 0 = nI B) {c : Nat} (hc : c < 64) (x : Int32) : ∀ (d i n : Nat) (m : Int32), i + d = B → d < n → (∀ b, b < 4 → bt m b = if b < i then (mv K c x b).isSome else (K c b).isSome) → (∀ b, 4 ≤ b → b < 32 → bt m b = false) → ∃ m', f_Co_madeWith_16 n r_co ta gu (nI c) x m (nI i) = some m' ∧ (∀ b, b < 4 → bt m' b = (mv K c x b).isSome) ∧ ∀ b, 4 ≤ b → b < 32 → bt m' b = false
  | 0, i, n + 1, m, hi, hn, h1, h2 => by
    have hB4 := h.1.2
    refine ⟨m, by rw [f_Co_madeWith_16]; simp (disch := omega) only [lI, nI_add, pk_mul, nI_leI, nI_ltI, nI_eq, ck_n, nm_n, nI_clamp, Option.bind_some, if_pos, if_neg, bk_n0, bk_n1, nI_sub, upd_s, mi_e, mi_ne, mi_ne2, mi_lt, mi_le, mi_nle, mi_nlt, mi_s, bt_shrE, bit_e, true_and, and_true, if_true, if_false, ne_eq, not_true_eq_false, not_false_eq_true, Bool.false_eq_true, Bool.true_eq_false, reduceCtorEq, hB], fun b hb => ?_, h2⟩
    rw [h1 b hb]
    by_cases hbi : b < i
    · rw [if_pos hbi]
    · rw [if_neg hbi]
      rcases hk : K c b with _ | ⟨g, s, k, dd⟩
      · simp [mv, hk]
      · have := (h.2.2.2 c hc b hb g s k dd hk).1; omega
  | d + 1, i, n + 1, m, hi, hn, h1, h2 => by
    have hB4 := h.1.2
    rw [f_Co_madeWith_16]
    unfold f_Co_madeWith_52
    have clr : ∀ b, b < 32 → bt (m &&& (bit i ^^^ mi)) b = (bt m b && !decide (b = i)) := fun b hb => by
      rw [bt_and, show mi = (-1 : Int32) from rfl, bt_not _ hb, bt_bit (by omega)]
    rcases hk : K c i with _ | ⟨g, s, k, dd⟩
    · have hmi : bt m i = false := by rw [h1 i (by omega), if_neg (by omega), hk]; rfl
      obtain ⟨y, hy⟩ := allows_any (gu (c * 4 + i)) x
      simp (disch := omega) only [lI, nI_add, pk_mul, nI_leI, nI_ltI, nI_eq, ck_n, nm_n, nI_clamp, Option.bind_some, if_pos, if_neg, bk_n0, bk_n1, nI_sub, upd_s, mi_e, mi_ne, mi_ne2, mi_lt, mi_le, mi_nle, mi_nlt, mi_s, bt_shrE, bit_e, true_and, and_true, if_true, if_false, ne_eq, not_true_eq_false, not_false_eq_true, Bool.false_eq_true, Bool.true_eq_false, reduceCtorEq, hB, hy]
      by_cases hy0 : y = nI 0
      · rw [if_pos hy0]
        refine made_lp h hB hc x d (i + 1) n _ (by omega) (by omega) (fun b hb => ?_) (fun b hb hb2 => by rw [clr b hb2, h2 b hb hb2]; rfl)
        rw [clr b (by omega), h1 b hb]
        by_cases hbi : b = i
        · subst hbi; simp [hk, mv]
        · by_cases hb2 : b < i
          · rw [if_pos hb2, if_pos (by omega)]; simp [hbi]
          · rw [if_neg hb2, if_neg (by omega)]; simp [hbi]
      · rw [if_neg hy0]
        refine made_lp h hB hc x d (i + 1) n _ (by omega) (by omega) (fun b hb => ?_) h2
        rw [h1 b hb]
        by_cases hbi : b = i
        · subst hbi; simp [hk, mv]
        · by_cases hb2 : b < i
          · rw [if_pos hb2, if_pos (by omega)]
          · rw [if_neg hb2, if_neg (by omega)]
    · have hg := (h.2.2.2 c hc i (by omega) g s k dd hk).2.1
      have e1 := ((h.2.1 c hc).2 i (by omega) g s k dd hk).1
      simp (disch := omega) only [lI, nI_add, pk_mul, nI_leI, nI_ltI, nI_eq, ck_n, nm_n, nI_clamp, Option.bind_some, if_pos, if_neg, bk_n0, bk_n1, nI_sub, upd_s, mi_e, mi_ne, mi_ne2, mi_lt, mi_le, mi_nle, mi_nlt, mi_s, bt_shrE, bit_e, true_and, and_true, if_true, if_false, ne_eq, not_true_eq_false, not_false_eq_true, Bool.false_eq_true, Bool.true_eq_false, reduceCtorEq, hB, e1, allows_n hg, b2i_0]
      rcases ha : allow g x with _ | _
      · simp (disch := omega) only [lI, nI_add, pk_mul, nI_leI, nI_ltI, nI_eq, ck_n, nm_n, nI_clamp, Option.bind_some, if_pos, if_neg, bk_n0, bk_n1, nI_sub, upd_s, mi_e, mi_ne, mi_ne2, mi_lt, mi_le, mi_nle, mi_nlt, mi_s, bt_shrE, bit_e, true_and, and_true, if_true, if_false, ne_eq, not_true_eq_false, not_false_eq_true, Bool.false_eq_true, Bool.true_eq_false, reduceCtorEq]
        refine made_lp h hB hc x d (i + 1) n _ (by omega) (by omega) (fun b hb => ?_) (fun b hb hb2 => by rw [clr b hb2, h2 b hb hb2]; rfl)
        rw [clr b (by omega), h1 b hb]
        by_cases hbi : b = i
        · subst hbi; simp [hk, mv, ha]
        · by_cases hb2 : b < i
          · rw [if_pos hb2, if_pos (by omega)]; simp [hbi]
          · rw [if_neg hb2, if_neg (by omega)]; simp [hbi]
      · rw [if_neg (by simp)]
        refine made_lp h hB hc x d (i + 1) n _ (by omega) (by omega) (fun b hb => ?_) h2
        rw [h1 b hb]
        by_cases hbi : b = i
        · subst hbi; simp [hk, mv, ha]
        · by_cases hb2 : b < i
          · rw [if_pos hb2, if_pos (by omega)]
          · rw [if_neg hb2, if_neg (by omega)]
theorem madeWith_n {B : Nat} {K : KT} {r_co ta gu so cn de mc : Nat → Int32} (h : RC B K ta gu so cn de mc) (hB : r_co 0 = nI B) {c : Nat} (hc : c < 64) (x : Int32) : ∃ m, f_Co_madeWith r_co ta gu (nI c) x = some m ∧ (∀ b, b < 4 → bt m b = (mv K c x b).isSome) ∧ ∀ b, 4 ≤ b → b < 32 → bt m b = false := by
  have hB4 := h.1
  obtain ⟨t1, t2⟩ := KD_bt h.2.1 hc
  unfold f_Co_madeWith
  simp (disch := omega) only [lI, nI_add, pk_mul, nI_leI, nI_ltI, nI_eq, ck_n, nm_n, nI_clamp, Option.bind_some, if_pos, if_neg, bk_n0, bk_n1, nI_sub, upd_s, mi_e, mi_ne, mi_ne2, mi_lt, mi_le, mi_nle, mi_nlt, mi_s, bt_shrE, bit_e, true_and, and_true, if_true, if_false, ne_eq, not_true_eq_false, not_false_eq_true, Bool.false_eq_true, Bool.true_eq_false, reduceCtorEq]
  by_cases h0 : ta c = nI 0
  · rw [if_pos h0]
    refine ⟨_, rfl, fun b hb => ?_, fun b _ _ => bt_zero b⟩
    have := t1 b hb
    rw [h0] at this
    have h00 : bt (nI 0) b = false := bt_zero b
    rw [h00] at this ⊢
    rcases hk : K c b with _ | q
    · simp [mv, hk]
    · rw [hk] at this; simp at this
  · rw [if_neg h0]
    have hb := hB4.2
    exact made_lp h hB hc x B 0 5000 _ (by omega) (by omega) (fun b hb => by rw [if_neg (by omega)]; exact t1 b hb) t2
-- the model's choose
theorem choose31 (f : (Nat → Int32) → (Nat → Int32) → (Nat → Int32) → Int32 → Int32 → Int32 → Option (Nat → Int32)) (mo mc md : Nat → Int32) (v1 x : Int32) {b : Nat} (hb : b < 4) (o : Option Nat) (ho : ∀ g, o = some g → g ≤ 8) (v4 : Int32) (hv : v4 = match o with | none => mi | some g => nI g) : f_Mo_choose_31 f mo mc md v1 x (nI b) v4 = f mo mc (upd md b (b2i (match o with | none => false | some g => allow g x))) v1 x (nI (b + 1)) := by
  unfold f_Mo_choose_31 f_Mo_choose_87
  rcases o with _ | g
  · simp only at hv
    subst hv
    simp (disch := omega) only [lI, nI_add, pk_mul, nI_leI, nI_ltI, nI_eq, ck_n, nm_n, nI_clamp, Option.bind_some, if_pos, if_neg, bk_n0, bk_n1, nI_sub, upd_s, mi_e, mi_ne, mi_ne2, mi_lt, mi_le, mi_nle, mi_nlt, mi_s, bt_shrE, bit_e, true_and, and_true, if_true, if_false, ne_eq, not_true_eq_false, not_false_eq_true, Bool.false_eq_true, Bool.true_eq_false, reduceCtorEq, b2i_f]
  · have hg := ho g rfl
    simp only at hv
    subst hv
    unfold allow
    by_cases h0 : g = 0
    · subst h0; simp (disch := omega) only [lI, nI_add, pk_mul, nI_leI, nI_ltI, nI_eq, ck_n, nm_n, nI_clamp, Option.bind_some, if_pos, if_neg, bk_n0, bk_n1, nI_sub, upd_s, mi_e, mi_ne, mi_ne2, mi_lt, mi_le, mi_nle, mi_nlt, mi_s, bt_shrE, bit_e, true_and, and_true, if_true, if_false, ne_eq, not_true_eq_false, not_false_eq_true, Bool.false_eq_true, Bool.true_eq_false, reduceCtorEq, b2i_t]
    · by_cases h5 : g < 5
      · simp (disch := omega) only [lI, nI_add, pk_mul, nI_leI, nI_ltI, nI_eq, ck_n, nm_n, nI_clamp, Option.bind_some, if_pos, if_neg, bk_n0, bk_n1, nI_sub, upd_s, mi_e, mi_ne, mi_ne2, mi_lt, mi_le, mi_nle, mi_nlt, mi_s, bt_shrE, bit_e, true_and, and_true, if_true, if_false, ne_eq, not_true_eq_false, not_false_eq_true, Bool.false_eq_true, Bool.true_eq_false, reduceCtorEq, bt1]
        cases bt x (g - 1)
        · simp (disch := omega) only [lI, nI_add, pk_mul, nI_leI, nI_ltI, nI_eq, ck_n, nm_n, nI_clamp, Option.bind_some, if_pos, if_neg, bk_n0, bk_n1, nI_sub, upd_s, mi_e, mi_ne, mi_ne2, mi_lt, mi_le, mi_nle, mi_nlt, mi_s, bt_shrE, bit_e, true_and, and_true, if_true, if_false, ne_eq, not_true_eq_false, not_false_eq_true, Bool.false_eq_true, Bool.true_eq_false, reduceCtorEq, b2i_f]
        · simp (disch := omega) only [lI, nI_add, pk_mul, nI_leI, nI_ltI, nI_eq, ck_n, nm_n, nI_clamp, Option.bind_some, if_pos, if_neg, bk_n0, bk_n1, nI_sub, upd_s, mi_e, mi_ne, mi_ne2, mi_lt, mi_le, mi_nle, mi_nlt, mi_s, bt_shrE, bit_e, true_and, and_true, if_true, if_false, ne_eq, not_true_eq_false, not_false_eq_true, Bool.false_eq_true, Bool.true_eq_false, reduceCtorEq, b2i_t]
      · simp (disch := omega) only [lI, nI_add, pk_mul, nI_leI, nI_ltI, nI_eq, ck_n, nm_n, nI_clamp, Option.bind_some, if_pos, if_neg, bk_n0, bk_n1, nI_sub, upd_s, mi_e, mi_ne, mi_ne2, mi_lt, mi_le, mi_nle, mi_nlt, mi_s, bt_shrE, bit_e, true_and, and_true, if_true, if_false, ne_eq, not_true_eq_false, not_false_eq_true, Bool.false_eq_true, Bool.true_eq_false, reduceCtorEq]
        cases bt x (g - 5)
        · simp (disch := omega) only [lI, nI_add, pk_mul, nI_leI, nI_ltI, nI_eq, ck_n, nm_n, nI_clamp, Option.bind_some, if_pos, if_neg, bk_n0, bk_n1, nI_sub, upd_s, mi_e, mi_ne, mi_ne2, mi_lt, mi_le, mi_nle, mi_nlt, mi_s, bt_shrE, bit_e, true_and, and_true, if_true, if_false, ne_eq, not_true_eq_false, not_false_eq_true, Bool.false_eq_true, Bool.true_eq_false, reduceCtorEq, Bool.not_false, b2i_t]
        · simp (disch := omega) only [lI, nI_add, pk_mul, nI_leI, nI_ltI, nI_eq, ck_n, nm_n, nI_clamp, Option.bind_some, if_pos, if_neg, bk_n0, bk_n1, nI_sub, upd_s, mi_e, mi_ne, mi_ne2, mi_lt, mi_le, mi_nle, mi_nlt, mi_s, bt_shrE, bit_e, true_and, and_true, if_true, if_false, ne_eq, not_true_eq_false, not_false_eq_true, Bool.false_eq_true, Bool.true_eq_false, reduceCtorEq, Bool.not_true, b2i_f]
theorem choose_lp {B : Nat} {K : KT} {ta gu so cn de mo mc : Nat → Int32} (h : RC B K ta gu so cn de mc) (hB : mo 1 = nI B) {c : Nat} (hc : c < 64) (x : Int32) : ∀ (d i n : Nat) (md : Nat → Int32), i + d = 4 → d < n → (∀ b, b < i → md b = b2i (mv K c x b).isSome) → ∃ md', f_Mo_choose_2 n mo mc md (nI c) x (nI i) = some md' ∧ ∀ b, b < 4 → md' b = b2i (mv K c x b).isSome
  | 0, i, n + 1, md, hi, hn, h1 => ⟨md, by rw [f_Mo_choose_2]; simp (disch := omega) only [lI, nI_add, pk_mul, nI_leI, nI_ltI, nI_eq, ck_n, nm_n, nI_clamp, Option.bind_some, if_pos, if_neg, bk_n0, bk_n1, nI_sub, upd_s, mi_e, mi_ne, mi_ne2, mi_lt, mi_le, mi_nle, mi_nlt, mi_s, bt_shrE, bit_e, true_and, and_true, if_true, if_false, ne_eq, not_true_eq_false, not_false_eq_true, Bool.false_eq_true, Bool.true_eq_false, reduceCtorEq], fun b hb => h1 b (by omega)⟩
  | d + 1, i, n + 1, md, hi, hn, h1 => by
    have hB4 := h.1.2
    rw [f_Mo_choose_2]
    have nxt : ∀ (z : Bool), z = (mv K c x i).isSome → ∃ md', f_Mo_choose_2 n mo mc (upd md i (b2i z)) (nI c) x (nI (i + 1)) = some md' ∧ ∀ b, b < 4 → md' b = b2i (mv K c x b).isSome := fun z hz => choose_lp h hB hc x d (i + 1) n _ (by omega) (by omega) (fun b hb => by
      by_cases e : b = i
      · subst e; rw [upd_s, hz]
      · rw [upd_n e]; exact h1 b (by omega))
    by_cases hiB : i < B
    · rcases hk : K c i with _ | ⟨g, s, k, dd⟩
      · have e1 := (h.2.2.1 c hc i (by omega)).1 hk
        simp (disch := omega) only [lI, nI_add, pk_mul, nI_leI, nI_ltI, nI_eq, ck_n, nm_n, nI_clamp, Option.bind_some, if_pos, if_neg, bk_n0, bk_n1, nI_sub, upd_s, mi_e, mi_ne, mi_ne2, mi_lt, mi_le, mi_nle, mi_nlt, mi_s, bt_shrE, bit_e, true_and, and_true, if_true, if_false, ne_eq, not_true_eq_false, not_false_eq_true, Bool.false_eq_true, Bool.true_eq_false, reduceCtorEq, hB, at_n]
        rw [choose31 _ mo mc md (nI c) x (by omega) none (fun g hg => by cases hg) _ e1]
        exact nxt _ (by simp [mv, hk])
      · have e1 := ((h.2.2.1 c hc i (by omega)).2 g s k dd hk).1
        have hg := (h.2.2.2 c hc i (by omega) g s k dd hk).2.1
        simp (disch := omega) only [lI, nI_add, pk_mul, nI_leI, nI_ltI, nI_eq, ck_n, nm_n, nI_clamp, Option.bind_some, if_pos, if_neg, bk_n0, bk_n1, nI_sub, upd_s, mi_e, mi_ne, mi_ne2, mi_lt, mi_le, mi_nle, mi_nlt, mi_s, bt_shrE, bit_e, true_and, and_true, if_true, if_false, ne_eq, not_true_eq_false, not_false_eq_true, Bool.false_eq_true, Bool.true_eq_false, reduceCtorEq, hB, at_n]
        rw [choose31 _ mo mc md (nI c) x (by omega) (some g) (fun g' hg' => by cases hg'; exact hg) _ e1]
        refine nxt _ ?_
        simp only [mv, hk]
        cases allow g x <;> rfl
    · simp (disch := omega) only [lI, nI_add, pk_mul, nI_leI, nI_ltI, nI_eq, ck_n, nm_n, nI_clamp, Option.bind_some, if_pos, if_neg, bk_n0, bk_n1, nI_sub, upd_s, mi_e, mi_ne, mi_ne2, mi_lt, mi_le, mi_nle, mi_nlt, mi_s, bt_shrE, bit_e, true_and, and_true, if_true, if_false, ne_eq, not_true_eq_false, not_false_eq_true, Bool.false_eq_true, Bool.true_eq_false, reduceCtorEq, hB]
      rw [choose31 _ mo mc md (nI c) x (by omega) none (fun g hg => by cases hg) _ rfl]
      refine nxt _ ?_
      rcases hk : K c i with _ | ⟨g, s, k, dd⟩
      · simp [mv, hk]
      · have := (h.2.2.2 c hc i (by omega) g s k dd hk).1; omega
theorem choose_n {B : Nat} {K : KT} {ta gu so cn de mo mc md : Nat → Int32} (h : RC B K ta gu so cn de mc) (hB : mo 1 = nI B) {c : Nat} (hc : c < 64) (x : Int32) : ∃ md', f_Mo_choose mo mc md (nI c) x = some md' ∧ ∀ b, b < 4 → md' b = b2i (mv K c x b).isSome :=
  choose_lp h hB hc x 4 0 5000 md (by omega) (by omega) (fun b hb => by omega)
/-- the moves agree with both codes -/
def MC (M : MT) (c : Nat) (so cn de mc : Nat → Int32) : Prop := ∀ b, b < 4 → ∀ s k d, M b = some (s, k, d) → so (c * 4 + b) = nI s ∧ cn (c * 4 + b) = k ∧ de (c * 4 + b) = nI d ∧ mc (16 * c + 4 * b + 1) = nI s ∧ mc (16 * c + 4 * b + 2) = k ∧ mc (16 * c + 4 * b + 3) = nI d ∧ s ≤ 11 ∧ d ≤ 25
theorem MC_mv {B : Nat} {K : KT} {ta gu so cn de mc : Nat → Int32} (h : RC B K ta gu so cn de mc) {c : Nat} (hc : c < 64) (x : Int32) : MC (mv K c x) c so cn de mc := fun b hb s k d he => by
  unfold mv at he
  rcases hk : K c b with _ | ⟨g, s', k', d'⟩
  · rw [hk] at he; cases he
  · rw [hk] at he
    simp only at he
    by_cases ha : allow g x = true
    · rw [if_pos ha] at he
      cases he
      obtain ⟨m1, m2, m3, m4⟩ := (h.2.2.1 c hc b hb).2 g _ _ _ hk
      obtain ⟨d1, d2, d3, d4⟩ := (h.2.1 c hc).2 b hb g _ _ _ hk
      obtain ⟨v1, v2, v3, v4⟩ := h.2.2.2 c hc b hb g _ _ _ hk
      exact ⟨d2, d3, d4, m2, m3, m4, v3, v4⟩
    · rw [if_neg ha] at he; cases he
