-- ===== triggers, bus by bus =====
theorem clash_no {M : MT} (hd : ∀ b, b < 4 → ∀ s k d, M b = some (s, k, d) → d ≤ 25) (hcl : clash M 4 = false) {a b : Nat} (hab : a < b) (hb : b < 4) {p q : Nat × Int32 × Nat} (hp : M a = some p) (hq : M b = some q) : TG p.2.2 ≠ TG q.2.2 := by
  rw [clash_p] at hcl
  simp only [Bool.or_eq_false_iff] at hcl
  obtain ⟨⟨⟨⟨⟨h01, h02⟩, h03⟩, h12⟩, h13⟩, h23⟩ := hcl
  have key : pcl M a b = false := by
    rcases (show (a = 0 ∧ b = 1) ∨ (a = 0 ∧ b = 2) ∨ (a = 0 ∧ b = 3) ∨ (a = 1 ∧ b = 2) ∨ (a = 1 ∧ b = 3) ∨ (a = 2 ∧ b = 3) by omega) with ⟨rfl, rfl⟩ | ⟨rfl, rfl⟩ | ⟨rfl, rfl⟩ | ⟨rfl, rfl⟩ | ⟨rfl, rfl⟩ | ⟨rfl, rfl⟩ <;> assumption
  unfold pcl at key
  rw [hp, hq] at key
  simp only at key
  intro e
  rw [e] at key
  simp at key
theorem trigs_lp {M : MT} {c : Nat} {Lt : Nat → Nat} {r_co so cn de lat mlat mc od rs mreg mopd mres mhad md va ca : Nat → Int32} {x : Int32} {sl : Nat} (hL : LL Lt lat mlat) (h : MC M c so cn de mc) (hc : c < 64) (hx : MK M x) (hm : MD M md) (hv : ∀ b, b < 4 → (M b).isSome = true → ca b = va b) (hcl : clash M 4 = false) : ∀ (d i n n' : Nat) (ma wo cm mo mmem mfu mfv mfi : Nat → Int32) (l : List T3), i + d = 4 → d < n → d < n' → ma 12 = nI c → RM ma od rs mo mopd mres mhad → RW wo mreg mmem → PDs Lt l sl ma cm mo mfu mfv mfi → BG M Lt i l → ∃ ma' wo' cm' mo' mmem' mfu' mfv' mfi' l' n'', f_Ma_pullTriggers_2 n lat r_co de ma wo od ca cm x (nI i) = some (ma', wo', cm') ∧ f_Mo_makeCycle_136 n' mo mlat mc mreg mmem mopd mres mhad mfu mfv mfi md va (nI c) (nI i) = f_Mo_makeCycle_136 (n'' + 1) mo' mlat mc mreg mmem' mopd mres mhad mfu' mfv' mfi' md va (nI c) (nI 4) ∧ RM ma' od rs mo' mopd mres mhad ∧ RW wo' mreg mmem' ∧ PDs Lt l' sl ma' cm' mo' mfu' mfv' mfi' ∧ ma' 12 = nI c ∧ KEEP mo mo'
  | 0, i, n + 1, n' + 1, ma, wo, cm, mo, mmem, mfu, mfv, mfi, l, hi, hn, hn', hp, hR, hW, hP, hB => by
    have : i = 4 := by omega
    subst this
    exact ⟨ma, wo, cm, mo, mmem, mfu, mfv, mfi, l, n', by rw [f_Ma_pullTriggers_2]; simp (disch := omega) only [lI, nI_add, pk_mul, nI_leI, nI_ltI, nI_eq, ck_n, nm_n, nI_clamp, Option.bind_some, if_pos, if_neg, bk_n0, bk_n1, nI_sub, upd_s, mi_e, mi_ne, mi_ne2, mi_lt, mi_le, mi_nle, mi_nlt, mi_s, bt_shrE, bit_e, true_and, and_true, if_true, if_false, ne_eq, not_true_eq_false, not_false_eq_true, Bool.false_eq_true, Bool.true_eq_false, reduceCtorEq], rfl, hR, hW, hP, hp, fun j _ _ _ _ _ => rfl⟩
  | d + 1, i, n + 1, n' + 1, ma, wo, cm, mo, mmem, mfu, mfv, mfi, l, hi, hn, hn', hp, hR, hW, hP, hB => by
    have hb := hm i (by omega)
    have hb2 := hx i (by omega)
    rw [f_Ma_pullTriggers_2, f_Mo_makeCycle_136]
    unfold f_Ma_pullTriggers_37 f_Co_destination f_Mo_makeCycle_189
    have bgs : ∀ l', (∀ u v, (u, Lt u, v) ∈ l' → (u, Lt u, v) ∈ l ∨ ∃ s k dd, M i = some (s, k, dd) ∧ UN dd = some u) → BG M Lt (i + 1) l' := fun l' hl u v hu => by
      rcases hl u v hu with h1 | ⟨s, k, dd, h1, h2⟩
      · obtain ⟨b, s, k, dd, q1, q2, q3⟩ := hB u v h1
        exact ⟨b, s, k, dd, by omega, q2, q3⟩
      · exact ⟨i, s, k, dd, by omega, h1, h2⟩
    rcases hM : M i with _ | ⟨s, k, dd⟩
    · rw [hM] at hb hb2
      simp (disch := omega) only [lI, nI_add, pk_mul, nI_leI, nI_ltI, nI_eq, ck_n, nm_n, nI_clamp, Option.bind_some, if_pos, if_neg, bk_n0, bk_n1, nI_sub, upd_s, mi_e, mi_ne, mi_ne2, mi_lt, mi_le, mi_nle, mi_nlt, mi_s, bt_shrE, bit_e, true_and, and_true, if_true, if_false, ne_eq, not_true_eq_false, not_false_eq_true, Bool.false_eq_true, Bool.true_eq_false, reduceCtorEq, hb, has_n, hb2, b2i_0, Option.isSome_none]
      exact trigs_lp hL h hc hx hm hv hcl d (i + 1) n n' ma wo cm mo mmem mfu mfv mfi l (by omega) (by omega) (by omega) hp hR hW hP (bgs l (fun u v h => Or.inl h))
    · obtain ⟨_, _, b3, a1, a2, a3, hs, hd⟩ := h i (by omega) s k dd hM
      have hv2 := hv i (by omega) (by rw [hM]; rfl)
      rw [hM] at hb hb2
      by_cases h11 : 11 ≤ dd
      · obtain ⟨ma', wo', cm', mo', mmem', mfu', mfv', mfi', l', p1, p2, p3, p4, p5, p6, p7, p8⟩ := trig_n hL hR hW hP h11 hd (fun u hu v hin => by
          obtain ⟨b, s', k', d', q1, q2, q3⟩ := hB u v hin
          have hd2 := (h b (by omega) s' k' d' q2).2.2.2.2.2.2.2
          exact clash_no (fun b hb s k d hM => (h b hb s k d hM).2.2.2.2.2.2.2) hcl q1 (by omega) q2 hM (UN_TG d' (by omega) dd (by omega) (by rw [q3]; simp) (by rw [q3, hu]))) (va i)
        simp (disch := omega) only [lI, nI_add, pk_mul, nI_leI, nI_ltI, nI_eq, ck_n, nm_n, nI_clamp, Option.bind_some, if_pos, if_neg, bk_n0, bk_n1, nI_sub, upd_s, mi_e, mi_ne, mi_ne2, mi_lt, mi_le, mi_nle, mi_nlt, mi_s, bt_shrE, bit_e, true_and, and_true, if_true, if_false, ne_eq, not_true_eq_false, not_false_eq_true, Bool.false_eq_true, Bool.true_eq_false, reduceCtorEq, hb, has_n, hb2, b2i_0, Option.isSome_some, at_n, a3, hp, b3, hv2, p1, p2]
        obtain ⟨ma2, wo2, cm2, mo2, mmem2, mfu2, mfv2, mfi2, l2, n2, r1, r2, r3, r4, r5, r6, r7⟩ := trigs_lp (r_co := r_co) hL h hc hx hm hv hcl d (i + 1) n n' ma' wo' cm' mo' mmem' mfu' mfv' mfi' l' (by omega) (by omega) (by omega) (p7.trans hp) p3 p4 p5 (bgs l' (fun u v hu => by
          rcases p6 u v hu with h1 | h1
          · exact Or.inl h1
          · exact Or.inr ⟨s, k, dd, hM, h1⟩))
        exact ⟨ma2, wo2, cm2, mo2, mmem2, mfu2, mfv2, mfi2, l2, n2, r1, r2, r3, r4, r5, r6, fun j h9 h11 h12 h14 h15 => (r7 j h9 h11 h12 h14 h15).trans (p8 j h9 h11 h12 h14 h15)⟩
      · have e1 : f_Ma_pull lat ma wo od cm (nI dd) (va i) = some (ma, wo, cm) := by
          unfold f_Ma_pull f_Ma_pull_151 f_Ma_pull_189
          simp (disch := omega) only [lI, nI_add, pk_mul, nI_leI, nI_ltI, nI_eq, ck_n, nm_n, nI_clamp, Option.bind_some, if_pos, if_neg, bk_n0, bk_n1, nI_sub, upd_s, mi_e, mi_ne, mi_ne2, mi_lt, mi_le, mi_nle, mi_nlt, mi_s, bt_shrE, bit_e, true_and, and_true, if_true, if_false, ne_eq, not_true_eq_false, not_false_eq_true, Bool.false_eq_true, Bool.true_eq_false, reduceCtorEq]
        simp (disch := omega) only [lI, nI_add, pk_mul, nI_leI, nI_ltI, nI_eq, ck_n, nm_n, nI_clamp, Option.bind_some, if_pos, if_neg, bk_n0, bk_n1, nI_sub, upd_s, mi_e, mi_ne, mi_ne2, mi_lt, mi_le, mi_nle, mi_nlt, mi_s, bt_shrE, bit_e, true_and, and_true, if_true, if_false, ne_eq, not_true_eq_false, not_false_eq_true, Bool.false_eq_true, Bool.true_eq_false, reduceCtorEq, hb, has_n, hb2, b2i_0, Option.isSome_some, at_n, a3, hp, b3, hv2, e1]
        exact trigs_lp hL h hc hx hm hv hcl d (i + 1) n n' ma wo cm mo mmem mfu mfv mfi l (by omega) (by omega) (by omega) hp hR hW hP (bgs l (fun u v h => Or.inl h))
-- ===== results delivered, flights landed =====
theorem deliver_lp {sl : Nat} (hsl : sl < 4) {cm : Nat → Int32} : ∀ (d i n : Nat) (ma rs : Nat → Int32), i + d = 3 → d < n → ma 9 = nI sl → ∃ ma' rs', f_Ma_deliverResults_2 n ma rs cm (nI i) = some (ma', rs') ∧ ma' 9 = nI ((sl + 1) % 4) ∧ (∀ j, j ≠ 8 → j ≠ 9 → j ≠ 10 → ma' j = ma j) ∧ (∀ u, u < 3 → rs' u = if i ≤ u ∧ bt (ma 8) (u * 4 + sl) = true then cm (u * 4 + sl) else rs u) ∧ (∀ t, t < 32 → bt (ma' 10) t = (bt (ma 10) t || (decide (t < 3) && decide (i ≤ t) && bt (ma 8) (t * 4 + sl)))) ∧ (∀ t, t < 12 → bt (ma' 8) t = (bt (ma 8) t && !(decide (t % 4 = sl) && decide (i ≤ t / 4))))
  | 0, i, n + 1, ma, rs, hi, hn, h9 => by
    have e1 : nI sl + nI 1 - (nI sl + nI 1) / nI 4 * nI 4 = nI ((sl + 1) % 4) := by
      rw [nI_add]; exact pk_rem (by omega) (by omega) (by omega)
    have e2 : f_Ma_deliverResults_78 ma rs cm = some (upd ma 9 (nI ((sl + 1) % 4)), rs) := by
      unfold f_Ma_deliverResults_78
      rw [h9, show (1 : Int32) = nI 1 from rfl, show (4 : Int32) = nI 4 from rfl, e1]; rfl
    refine ⟨upd ma 9 (nI ((sl + 1) % 4)), rs, ?_, rfl, fun j _ h9 _ => upd_n h9, fun u hu => ?_, fun t ht => ?_, fun t ht => ?_⟩
    · rw [f_Ma_deliverResults_2]
      simp (disch := omega) only [lI, nI_add, pk_mul, nI_leI, nI_ltI, nI_eq, ck_n, nm_n, nI_clamp, Option.bind_some, if_pos, if_neg, bk_n0, bk_n1, nI_sub, upd_s, mi_e, mi_ne, mi_ne2, mi_lt, mi_le, mi_nle, mi_nlt, mi_s, bt_shrE, bit_e, true_and, and_true, if_true, if_false, ne_eq, not_true_eq_false, not_false_eq_true, Bool.false_eq_true, Bool.true_eq_false, reduceCtorEq, e2]
      split <;> rfl
    · rw [if_neg (by omega)]
    · have : ¬ (t < 3 ∧ i ≤ t) := by omega
      show bt (ma 10) t = _
      by_cases h3 : t < 3
      · have : ¬ i ≤ t := by omega
        simp [this]
      · simp [h3]
    · show bt (ma 8) t = _
      have : ¬ i ≤ t / 4 := by omega
      simp [this]
  | d + 1, i, n + 1, ma, rs, hi, hn, h9 => by
    have e1 : nI sl + nI 1 - (nI sl + nI 1) / nI 4 * nI 4 = nI ((sl + 1) % 4) := by
      rw [nI_add]; exact pk_rem (by omega) (by omega) (by omega)
    have e2 : f_Ma_deliverResults_78 ma rs cm = some (upd ma 9 (nI ((sl + 1) % 4)), rs) := by
      unfold f_Ma_deliverResults_78
      rw [h9, show (1 : Int32) = nI 1 from rfl, show (4 : Int32) = nI 4 from rfl, e1]; rfl
    rw [f_Ma_deliverResults_2]
    unfold f_Ma_deliverResults_72
    by_cases h80 : ma 8 = nI 0
    · have hz : ∀ t, bt (ma 8) t = false := fun t => by rw [h80]; exact bt_zero t
      refine ⟨upd ma 9 (nI ((sl + 1) % 4)), rs, ?_, rfl, fun j _ h9 _ => upd_n h9, fun u hu => ?_, fun t ht => ?_, fun t ht => ?_⟩
      · simp (disch := omega) only [lI, nI_add, pk_mul, nI_leI, nI_ltI, nI_eq, ck_n, nm_n, nI_clamp, Option.bind_some, if_pos, if_neg, bk_n0, bk_n1, nI_sub, upd_s, mi_e, mi_ne, mi_ne2, mi_lt, mi_le, mi_nle, mi_nlt, mi_s, bt_shrE, bit_e, true_and, and_true, if_true, if_false, ne_eq, not_true_eq_false, not_false_eq_true, Bool.false_eq_true, Bool.true_eq_false, reduceCtorEq, h80, e2]
      · rw [hz]; simp
      · show bt (ma 10) t = _
        rw [hz]; simp
      · show bt (ma 8) t = _
        rw [hz]; simp
    · simp (disch := omega) only [lI, nI_add, pk_mul, nI_leI, nI_ltI, nI_eq, ck_n, nm_n, nI_clamp, Option.bind_some, if_pos, if_neg, bk_n0, bk_n1, nI_sub, upd_s, mi_e, mi_ne, mi_ne2, mi_lt, mi_le, mi_nle, mi_nlt, mi_s, bt_shrE, bit_e, true_and, and_true, if_true, if_false, ne_eq, not_true_eq_false, not_false_eq_true, Bool.false_eq_true, Bool.true_eq_false, reduceCtorEq, h80, h9]
      rcases hbit : bt (ma 8) (i * 4 + sl) with _ | _
      · simp (disch := omega) only [lI, nI_add, pk_mul, nI_leI, nI_ltI, nI_eq, ck_n, nm_n, nI_clamp, Option.bind_some, if_pos, if_neg, bk_n0, bk_n1, nI_sub, upd_s, mi_e, mi_ne, mi_ne2, mi_lt, mi_le, mi_nle, mi_nlt, mi_s, bt_shrE, bit_e, true_and, and_true, if_true, if_false, ne_eq, not_true_eq_false, not_false_eq_true, Bool.false_eq_true, Bool.true_eq_false, reduceCtorEq]
        obtain ⟨ma', rs', q1, q2, q3, q4, q5, q6⟩ := deliver_lp hsl (cm := cm) d (i + 1) n ma rs (by omega) (by omega) h9
        refine ⟨ma', rs', q1, q2, q3, fun u hu => ?_, fun t ht => ?_, fun t ht => ?_⟩
        · rw [q4 u hu]
          by_cases e : u = i
          · subst e
            rw [if_neg (by omega), if_neg (by rw [hbit]; simp)]
          · by_cases h1 : i + 1 ≤ u
            · have h2 : i ≤ u := by omega
              simp [h1, h2]
            · have h2 : ¬ i ≤ u := by omega
              simp [h1, h2]
        · rw [q5 t ht]
          by_cases e : t = i
          · subst e
            rw [hbit]; simp
          · by_cases h1 : i + 1 ≤ t
            · have h2 : i ≤ t := by omega
              simp [h1, h2]
            · have h2 : ¬ i ≤ t := by omega
              simp [h1, h2]
        · rw [q6 t ht]
          by_cases e : t = i * 4 + sl
          · subst e
            rw [hbit]; simp
          · by_cases h1 : i + 1 ≤ t / 4
            · have h2 : i ≤ t / 4 := by omega
              simp [h1, h2]
            · by_cases h3 : i ≤ t / 4
              · have h4 : ¬ t % 4 = sl := by omega
                simp [h4]
              · simp [h1, h3]
      · simp (disch := omega) only [lI, nI_add, pk_mul, nI_leI, nI_ltI, nI_eq, ck_n, nm_n, nI_clamp, Option.bind_some, if_pos, if_neg, bk_n0, bk_n1, nI_sub, upd_s, mi_e, mi_ne, mi_ne2, mi_lt, mi_le, mi_nle, mi_nlt, mi_s, bt_shrE, bit_e, true_and, and_true, if_true, if_false, ne_eq, not_true_eq_false, not_false_eq_true, Bool.false_eq_true, Bool.true_eq_false, reduceCtorEq]
        have clr : ∀ b, b < 32 → bt (ma 8 &&& (bit (i * 4 + sl) ^^^ mi)) b = (bt (ma 8) b && !decide (b = i * 4 + sl)) := fun b hb => by
          rw [bt_and, show mi = (-1 : Int32) from rfl, bt_not _ hb, bt_bit (by omega)]
        obtain ⟨ma', rs', q1, q2, q3, q4, q5, q6⟩ := deliver_lp hsl (cm := cm) d (i + 1) n (upd (upd ma 8 (ma 8 &&& (bit (i * 4 + sl) ^^^ mi))) 10 (ma 10 ||| bit i)) (upd rs i (cm (i * 4 + sl))) (by omega) (by omega) h9
        have u8 : upd (upd ma 8 (ma 8 &&& (bit (i * 4 + sl) ^^^ mi))) 10 (ma 10 ||| bit i) 8 = ma 8 &&& (bit (i * 4 + sl) ^^^ mi) := rfl
        have u10 : upd (upd ma 8 (ma 8 &&& (bit (i * 4 + sl) ^^^ mi))) 10 (ma 10 ||| bit i) 10 = ma 10 ||| bit i := rfl
        rw [u8] at q4 q5 q6
        rw [u10] at q5
        refine ⟨ma', rs', q1, q2, fun j h8 h9 h10 => by rw [q3 j h8 h9 h10, upd_n h10, upd_n h8], fun u hu => ?_, fun t ht => ?_, fun t ht => ?_⟩
        · rw [q4 u hu]
          by_cases e : u = i
          · subst e
            rw [if_neg (by omega), if_pos ⟨Nat.le_refl _, hbit⟩, upd_s]
          · rw [upd_n e, clr _ (by omega)]
            have h5 : ¬ u * 4 = i * 4 := by omega
            by_cases h1 : i + 1 ≤ u
            · have h2 : i ≤ u := by omega
              simp [h1, h2, h5]
            · have h2 : ¬ i ≤ u := by omega
              simp [h1, h2]
        · rw [q5 t ht, bt_or, bt_bit (by omega)]
          by_cases e : t = i
          · subst e
            rw [hbit]
            have h3 : t < 3 := by omega
            simp [h3]
          · by_cases h3 : t < 3
            · rw [clr _ (by omega)]
              have h5 : ¬ t * 4 = i * 4 := by omega
              by_cases h1 : i + 1 ≤ t
              · have h2 : i ≤ t := by omega
                simp [h1, h2, h5, e]
              · have h2 : ¬ i ≤ t := by omega
                simp [h1, h2, e]
            · simp [h3, e]
        · rw [q6 t ht, clr t (by omega)]
          by_cases e : t = i * 4 + sl
          · have h1 : t % 4 = sl := by omega
            have h2 : i ≤ t / 4 := by omega
            simp [e, h1, h2]
            omega
          · by_cases h1 : i + 1 ≤ t / 4
            · have h2 : i ≤ t / 4 := by omega
              simp [h1, h2, e]
            · by_cases h3 : i ≤ t / 4
              · have h4 : ¬ t % 4 = sl := by omega
                simp [h4, e]
              · simp [h1, h3, e]
