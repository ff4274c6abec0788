-- ===== one choice at a state of the reference =====
theorem g113_bad {rec : GF} {mo mlat mc md seen que : Nat → Int32} {v2 v3 v4 v5 v6 v9 : Int32} {m f : Nat} (hf : f ≠ 0) (h6 : f < 6) : f_Mo_goOn_113 rec mo mlat mc md seen que v2 v3 v4 v5 v6 (nI m) (nI f) v9 = (f_Mo_wrong mo v6 (nI f)).bind fun y => rec y mlat mc md seen que v2 v3 v4 v5 v6 (nI (m + 1)) := by
  unfold f_Mo_goOn_113
  rw [if_neg (show ¬ nI f ≤ 0 from nI_nle (by omega) (by omega))]
  simp only [g325]
theorem g113_ok {M : MT} {c : Nat} {so cn de : Nat → Int32} {rec : GF} {mo mlat mc md seen que : Nat → Int32} (h : MC M c so cn de mc) (hc : c < 64) (hm : MD M md) {v2 v3 v4 v5 v9 : Int32} {m : Nat} : f_Mo_goOn_113 rec mo mlat mc md seen que v2 v3 v4 v5 (nI c) (nI m) (nI 0) v9 = if hlt M = true then rec mo mlat mc md seen que v2 v3 v4 v5 (nI c) (nI (m + 1)) else f_Mo_goOn_160 rec mo mlat mc md seen que v2 v3 v4 v5 (nI c) (nI m) v9 (nI ((c + 1) % 64)) := by
  have hi := isMade_n (mo := mo) h hc hm (show 25 < 100 by omega)
  unfold f_Mo_goOn_113
  rw [if_pos (show nI 0 ≤ 0 by decide), show (25 : Int32) = nI 25 from rfl, hi, Option.bind_some]
  show (if b2i (hlt M) = 0 then _ else _) = _
  cases hlt M
  · rw [if_pos (show b2i false = 0 from rfl), if_neg (show ¬ false = true by decide)]
    by_cases e : c = 63
    · subst e
      rw [if_pos (show nI 63 = 63 from rfl)]
      rfl
    · rw [if_neg (show ¬ nI c = 63 from fun q => e ((nI_eq (b := 63) (by omega) (by omega)).mp q)), nm_n, nI_1, show (c + 1) % 64 = c + 1 by omega]
  · rw [if_neg (show ¬ b2i true = 0 by decide), if_pos rfl, g325]
theorem g160_mi {rec : GF} {mo mlat mc md seen que : Nat → Int32} {v2 v3 v4 v6 v7 : Int32} {J c' : Nat} (hJ : J ≤ 128) : f_Mo_goOn_160 rec mo mlat mc md seen que v2 v3 v4 (nI J) v6 v7 mi (nI c') = f_Mo_goOn_220 rec mo mlat mc md seen que v2 v3 v4 (nI J) v6 v7 (nI (if J = 0 then c' else if 65 ≤ J then c' else J - 1)) (nI (if J ≤ 64 then 0 else J - 64)) := by
  unfold f_Mo_goOn_160 f_Mo_goOn_202
  by_cases h1 : J ≤ 64
  · by_cases h0 : J = 0
    · subst h0; simp (disch := omega) only [lI, nI_add, pk_mul, nI_leI, nI_ltI, nI_eq, ck_n, nm_n, nI_clamp, Option.bind_some, if_pos, if_neg, bk_n0, bk_n1, nI_sub, upd_s, mi_e, mi_ne, mi_ne2, mi_lt, mi_le, mi_nle, mi_nlt, mi_s, bt_shrE, bit_e, true_and, and_true, if_true, if_false, ne_eq, not_true_eq_false, not_false_eq_true, Bool.false_eq_true, Bool.true_eq_false, reduceCtorEq]
    · have : ¬ 65 ≤ J := by omega
      have h0' : ¬ J ≤ 0 := by omega
      simp (disch := omega) only [lI, nI_add, pk_mul, nI_leI, nI_ltI, nI_eq, ck_n, nm_n, nI_clamp, Option.bind_some, if_pos, if_neg, bk_n0, bk_n1, nI_sub, upd_s, mi_e, mi_ne, mi_ne2, mi_lt, mi_le, mi_nle, mi_nlt, mi_s, bt_shrE, bit_e, true_and, and_true, if_true, if_false, ne_eq, not_true_eq_false, not_false_eq_true, Bool.false_eq_true, Bool.true_eq_false, reduceCtorEq]
  · have h65 : 65 ≤ J := by omega
    have h0 : ¬ J = 0 := by omega
    simp (disch := omega) only [lI, nI_add, pk_mul, nI_leI, nI_ltI, nI_eq, ck_n, nm_n, nI_clamp, Option.bind_some, if_pos, if_neg, bk_n0, bk_n1, nI_sub, upd_s, mi_e, mi_ne, mi_ne2, mi_lt, mi_le, mi_nle, mi_nlt, mi_s, bt_shrE, bit_e, true_and, and_true, if_true, if_false, ne_eq, not_true_eq_false, not_false_eq_true, Bool.false_eq_true, Bool.true_eq_false, reduceCtorEq]
theorem g160_j {rec : GF} {mo mlat mc md seen que cn : Nat → Int32} {v2 v3 v4 v6 v7 : Int32} {c b c' : Nat} (hc : c < 64) (hb : b < 4) (hk : mc (16 * c + 4 * b + 2) = cn (c * 4 + b)) : f_Mo_goOn_160 rec mo mlat mc md seen que v2 v3 v4 (nI 0) v6 v7 (nI (16 * c + 4 * b)) (nI c') = f_Mo_goOn_220 rec mo mlat mc md seen que v2 v3 v4 (nI 0) v6 v7 (nI c') (nI (65 + tq cn c b)) := by
  have e := (tq_n cn c b).1
  unfold f_Mo_goOn_160 f_Mo_goOn_202
  rw [if_neg (show ¬ nI (16 * c + 4 * b) = (-1 : Int32) from nI_m1 (by omega)), show nI (16 * c + 4 * b) + (2 : Int32) = nI (16 * c + 4 * b + 2) from nI_add _ 2, ck_n (by omega) (by omega), nm_n, nI_clamp (by omega), hk, e, if_pos (show nI 0 ≤ 0 by decide), show (65 : Int32) + nI (tq cn c b) = nI (65 + tq cn c b) from nI_add 65 _]
theorem gstep {M : MT} {c j a m : Nat} {L : Nat → Nat} (hLJ : LJ L) {so cn de mo lat mlat mc md seen que : Nat → Int32} (h : MC M c so cn de mc) (hc : c < 64) (hj : j < 9) (hm : MD M md) (hL : LL L lat mlat) (hV : VA L a) (rec : GF) : f_Mo_goOn_77 rec mo mlat mc md seen que (nI (lf L 2 a)) (nI (lf L 1 a)) (nI (hb L a)) (nI (jm cn c j)) (nI c) (nI m) (nI (FTb M (hd L a) (!(j == 0)))) = if flt L M j a = 0 then (if hlt M = true then rec mo mlat mc md seen que (nI (lf L 2 a)) (nI (lf L 1 a)) (nI (hb L a)) (nI (jm cn c j)) (nI c) (nI (m + 1)) else (f_Mo_come mo seen que (nI (ncy cn c j)) (nI (jm cn (ncy cn c j) (njp M j))) (nI (hb L (old L M a))) (nI (lf L 1 (old L M a))) (nI (lf L 2 (old L M a)))).bind fun r => rec r.1 mlat mc md r.2.1 r.2.2 (nI (lf L 2 a)) (nI (lf L 1 a)) (nI (hb L a)) (nI (jm cn c j)) (nI c) (nI (m + 1))) else (f_Mo_wrong mo (nI c) (nI (flt L M j a))).bind fun y => rec y mlat mc md seen que (nI (lf L 2 a)) (nI (lf L 1 a)) (nI (hb L a)) (nI (jm cn c j)) (nI c) (nI (m + 1)) := by
  obtain ⟨y, y1, y2⟩ := jsrc_n (mo := mo) h hc hm
  have hle := FTb_le M (hd L a) (!(j == 0))
  unfold f_Mo_goOn_77
  rw [y1, Option.bind_some]
  by_cases hF : FTb M (hd L a) (!(j == 0)) = 0
  · obtain ⟨hcl, hnj⟩ := FTb_cl hF
    have hnj0 : j ≠ 0 → anyM (fun q => q.2.2 == 24) M 4 = false := fun hj0 => hnj (by rw [beq_false_of_ne hj0]; rfl)
    rw [hF, if_pos (show nI 0 = 0 from rfl)]
    have hfl : flt L M j a = if ncj M = true then 5 else 0 := by unfold flt nxF; rw [if_pos hF]
    rcases y2 with ⟨rfl, hno⟩ | ⟨b, s, k, hb4, hMb, rfl⟩
    · -- no jump
      have hncj : ncj M = false := by
        cases z : ncj M
        · rfl
        · obtain ⟨b, s, k, z1, z2, _⟩ := ncj_iff.mp z
          exact absurd z2 (hno b z1 s k)
      have hjs : jsp M 4 = 0 := by
        rcases jsp_c M 4 with ⟨z, _⟩ | ⟨b, s, k, _, _, z3, z4⟩
        · exact z
        · exact absurd z4 (hno b z3 s k)
      rw [hncj, if_neg (by decide)] at hfl
      rw [hfl, if_pos rfl, if_pos (show mi = -1 from rfl), g113_ok h hc hm]
      cases hh : hlt M
      · rw [if_neg (by decide), if_neg (by decide), g160_mi (jm_le cn c j)]
        have e1 : (if jm cn c j = 0 then (c + 1) % 64 else if 65 ≤ jm cn c j then (c + 1) % 64 else jm cn c j - 1) = ncy cn c j ∧ (if jm cn c j ≤ 64 then 0 else jm cn c j - 64) = jm cn (ncy cn c j) (njp M j) := by
          have t1 := (tq_n cn ((c + 63) % 64) (j - 1)).2
          have t2 := (tq_n cn ((c + 62) % 64) (j - 5)).2
          unfold ncy njp
          by_cases j0 : j = 0
          · subst j0
            rw [if_pos (show 0 ≤ 4 by omega), if_pos rfl, hjs]
            exact ⟨rfl, rfl⟩
          · by_cases j4 : j ≤ 4
            · rw [if_pos j4, if_neg j0, if_pos j4]
              have ej : jm cn c j = 65 + tq cn ((c + 63) % 64) (j - 1) := by unfold jm; rw [if_neg j0, if_pos j4]
              have ej2 : jm cn ((c + 1) % 64) (j + 4) = 1 + tq cn ((c + 63) % 64) (j - 1) := by
                unfold jm
                rw [if_neg (by omega), if_neg (by omega), show ((c + 1) % 64 + 62) % 64 = (c + 63) % 64 by omega, show j + 4 - 5 = j - 1 by omega]
              rw [ej, ej2, if_neg (by omega), if_pos (by omega), if_neg (by omega)]
              exact ⟨rfl, by omega⟩
            · rw [if_neg j4, if_neg j0, if_neg j4]
              have ej : jm cn c j = 1 + tq cn ((c + 62) % 64) (j - 5) := by unfold jm; rw [if_neg j0, if_neg j4]
              rw [ej, if_neg (by omega), if_neg (by omega), if_pos (by omega)]
              exact ⟨by omega, rfl⟩
        rw [e1.1, e1.2]
        exact gcome hLJ h hc hm hL hV rec _
      · rw [if_pos rfl, if_pos rfl]
    · -- a jump
      obtain ⟨m1, m2, m3, m4, m5, m6, m7, m8⟩ := h b hb4 s k 24 hMb
      have j0 : j = 0 := by
        refine Classical.byContradiction (fun z => ?_)
        have := any24.mpr ⟨b, s, k, hb4, hMb⟩
        rw [hnj0 z] at this; cases this
      subst j0
      rw [if_neg (show ¬ nI (16 * c + 4 * b) = (-1 : Int32) from nI_m1 (by omega)), show nI (16 * c + 4 * b) + (1 : Int32) = nI (16 * c + 4 * b + 1) from nI_add _ 1, ck_n (by omega) (by omega), nI_clamp (by omega), m4]
      by_cases e11 : s = 11
      · subst e11
        have hncj : ncj M = false := by
          cases z : ncj M
          · rfl
          · obtain ⟨b', s', k', z1, z2, z3⟩ := ncj_iff.mp z
            have := jump_one hcl hb4 z1 hMb z2
            subst this
            rw [hMb] at z2
            injection z2 with z2
            injection z2 with z2
            exact absurd z2.symm z3
        rw [hncj, if_neg (by decide)] at hfl
        rw [hfl, if_pos rfl, if_pos (show nI 11 = 11 from rfl), g113_ok h hc hm]
        cases hh : hlt M
        · rw [if_neg (by decide), if_neg (by decide)]
          have hjs : jsp M 4 = b + 1 := by
            rcases jsp_c M 4 with ⟨_, _, z⟩ | ⟨b', s', k', z1, _, z3, z4⟩
            · have := any24.mpr ⟨b, 11, k, hb4, hMb⟩
              rw [z] at this; cases this
            · rw [jump_one hcl hb4 z3 hMb z4]; exact z1
          have e0 : jm cn c 0 = 0 := rfl
          have e1 : ncy cn c 0 = (c + 1) % 64 := rfl
          have e2 : njp M 0 = b + 1 := hjs
          have e3 : jm cn ((c + 1) % 64) (b + 1) = 65 + tq cn c b := by
            unfold jm
            rw [if_neg (by omega), if_pos (by omega), show ((c + 1) % 64 + 63) % 64 = c by omega, show b + 1 - 1 = b by omega]
          rw [e0, g160_j (cn := cn) hc hb4 (by rw [m5, m2]), e1, e2, e3]
          exact gcome hLJ h hc hm hL hV rec _
        · rw [if_pos rfl, if_pos rfl]
      · have hncj : ncj M = true := ncj_iff.mpr ⟨b, s, k, hb4, hMb, e11⟩
        rw [hncj, if_pos rfl] at hfl
        rw [hfl, if_neg (show ¬ nI s = 11 from fun q => e11 ((nI_eq (b := 11) (by omega) (by omega)).mp q)), if_neg (show ¬ 5 = 0 by omega)]
        exact g113_bad (f := 5) (by omega) (by omega)
  · have hfl : flt L M j a = FTb M (hd L a) (!(j == 0)) := by unfold flt nxF; rw [if_neg hF]
    rw [if_neg (show ¬ nI (FTb M (hd L a) (!(j == 0))) = 0 from nI_ne0 (by omega) (by omega)), hfl, if_neg hF]
    exact g113_bad hF (by omega)
