-- ===== move, free, moveAt, clear =====
def kset (K : KT) (c b : Nat) (v : Option (Nat × Nat × Int32 × Nat)) : KT := fun c' b' => if c' = c ∧ b' = b then v else K c' b'
theorem kset_s (K : KT) (c b : Nat) (v : Option (Nat × Nat × Int32 × Nat)) : kset K c b v c b = v := by simp [kset]
theorem kset_n (K : KT) {c b c' b' : Nat} (v : Option (Nat × Nat × Int32 × Nat)) (h : ¬ (c' = c ∧ b' = b)) : kset K c b v c' b' = K c' b' := by simp [kset, h]
theorem ix_n (c b : Nat) : nI c * (4 : Int32) + nI b = nI (c * 4 + b) := by
  show nI c * nI 4 + nI b = _
  rw [pk_mul, nI_add]
theorem put_n {r_co ta gu so cn de : Nat → Int32} {c b : Nat} (hc : c < 64) (hb : b < 4) (g s k d : Int32) : f_Co_put r_co ta gu so cn de (nI c) (nI b) g s k d = some (upd ta c ((ta c) ||| ((1 : Int32) <<< (nI b &&& 31))), upd gu (c * 4 + b) g, upd so (c * 4 + b) s, upd cn (c * 4 + b) k, upd de (c * 4 + b) d) := by
  unfold f_Co_put
  rw [ix_n, nm_n]
  simp only [ck_n hc (show 64 < 2 ^ 31 by omega), ck_n (show c * 4 + b < 256 by omega) (show 256 < 2 ^ 31 by omega), nI_clamp (show c < 2 ^ 31 by omega), nI_clamp (show c * 4 + b < 2 ^ 31 by omega)]
theorem mput_n {r_mo mc : Nat → Int32} (h0 : r_mo 0 = 0) {c b : Nat} (hc : c < 64) (hb : b < 4) (g s k d : Int32) : f_Mo_move_56 r_mo mc (nI c) (nI b) g s k d = some (r_mo, upd (upd (upd (upd mc (16 * c + 4 * b) g) (16 * c + 4 * b + 1) s) (16 * c + 4 * b + 2) k) (16 * c + 4 * b + 3) d) := by
  unfold f_Mo_move_56
  rw [h0, if_pos (by decide)]
  simp only [at_n, Option.bind_some]
  have e1 : nI (16 * c + 4 * b) + (1 : Int32) = nI (16 * c + 4 * b + 1) := nI_add _ 1
  have e2 : nI (16 * c + 4 * b) + (2 : Int32) = nI (16 * c + 4 * b + 2) := nI_add _ 2
  have e3 : nI (16 * c + 4 * b) + (3 : Int32) = nI (16 * c + 4 * b + 3) := nI_add _ 3
  rw [e1, e2, e3, ck_n (by omega) (by omega), ck_n (by omega) (by omega), ck_n (by omega) (by omega), ck_n (by omega) (by omega), nI_clamp (by omega), nI_clamp (by omega), nI_clamp (by omega), nI_clamp (by omega)]
theorem RC_put {B : Nat} {K : KT} {ta gu so cn de mc : Nat → Int32} (h : RC B K ta gu so cn de mc) {c b : Nat} (hc : c < 64) (hb : b < B) {g s d : Nat} (k : Int32) (hg : g ≤ 8) (hs : s ≤ 11) (hd : d ≤ 25) :
    RC B (kset K c b (some (g, s, k, d))) (upd ta c ((ta c) ||| ((1 : Int32) <<< (nI b &&& 31)))) (upd gu (c * 4 + b) (nI g)) (upd so (c * 4 + b) (nI s)) (upd cn (c * 4 + b) k) (upd de (c * 4 + b) (nI d)) (upd (upd (upd (upd mc (16 * c + 4 * b) (nI g)) (16 * c + 4 * b + 1) (nI s)) (16 * c + 4 * b + 2) k) (16 * c + 4 * b + 3) (nI d)) := by
  obtain ⟨hB, hD, hM, hV⟩ := h
  have hb4 : b < 4 := Nat.lt_of_lt_of_le hb hB.2
  refine ⟨hB, fun c' hc' => ?_, fun c' hc' b' hb' => ?_, fun c' hc' b' hb' g' s' k' d' he => ?_⟩
  · obtain ⟨⟨t, ht, h1, h2⟩, h3⟩ := hD c' hc'
    refine ⟨?_, fun b' hb' g' s' k' d' he => ?_⟩
    · by_cases hcc : c' = c
      · subst hcc
        obtain ⟨q1, q2, q3⟩ := bit_or t ht b hb4
        refine ⟨_, q2, by rw [upd_s, h1]; exact q1, fun b' hb' => ?_⟩
        rw [q3 b' hb', h2 b' hb']
        by_cases hbb : b' = b
        · subst hbb; simp [kset_s]
        · rw [kset_n K _ (fun e => hbb e.2)]; simp [hbb]
      · exact ⟨t, ht, by rw [upd_n hcc]; exact h1, fun b' hb' => by rw [kset_n K _ (fun e => hcc e.1)]; exact h2 b' hb'⟩
    · by_cases hh : c' = c ∧ b' = b
      · obtain ⟨rfl, rfl⟩ := hh
        rw [kset_s] at he
        cases he
        simp only [upd_s]
        exact ⟨trivial, trivial, trivial, trivial⟩
      · rw [kset_n K _ hh] at he
        have hne : c' * 4 + b' ≠ c * 4 + b := by omega
        simp only [upd_n hne]
        exact h3 b' hb' g' s' k' d' he
  · by_cases hh : c' = c ∧ b' = b
    · obtain ⟨rfl, rfl⟩ := hh
      rw [kset_s]
      refine ⟨fun e => (by cases e), fun g' s' k' d' he => ?_⟩
      cases he
      refine ⟨?_, ?_, ?_, ?_⟩
      · rw [upd_n (by omega), upd_n (by omega), upd_n (by omega), upd_s]
      · rw [upd_n (by omega), upd_n (by omega), upd_s]
      · rw [upd_n (by omega), upd_s]
      · rw [upd_s]
    · rw [kset_n K _ hh]
      obtain ⟨q1, q2⟩ := hM c' hc' b' hb'
      refine ⟨fun e => ?_, fun g' s' k' d' he => ?_⟩
      · rw [upd_n (by omega), upd_n (by omega), upd_n (by omega), upd_n (by omega)]
        exact q1 e
      · obtain ⟨r1, r2, r3, r4⟩ := q2 g' s' k' d' he
        refine ⟨?_, ?_, ?_, ?_⟩
        · rw [upd_n (by omega), upd_n (by omega), upd_n (by omega), upd_n (by omega)]; exact r1
        · rw [upd_n (by omega), upd_n (by omega), upd_n (by omega), upd_n (by omega)]; exact r2
        · rw [upd_n (by omega), upd_n (by omega), upd_n (by omega), upd_n (by omega)]; exact r3
        · rw [upd_n (by omega), upd_n (by omega), upd_n (by omega), upd_n (by omega)]; exact r4
  · by_cases hh : c' = c ∧ b' = b
    · obtain ⟨rfl, rfl⟩ := hh
      rw [kset_s] at he
      cases he
      exact ⟨hb, hg, hs, hd⟩
    · rw [kset_n K _ hh] at he
      exact hV c' hc' b' hb' g' s' k' d' he
/-- the model's other fields stay -/
def mk0 (r r' : Nat → Int32) : Prop := ∀ k, k ≠ 0 → r' k = r k
theorem mk0_upd (r : Nat → Int32) (x : Int32) : mk0 r (upd r 0 x) := fun k hk => upd_n hk
theorem case_move {B : Nat} {K : KT} {r_md r_co ta gu so cn de r_mo mc : Nat → Int32} (h : RC B K ta gu so cn de mc) (hB : r_co 0 = nI B) (hB2 : r_mo 1 = nI B) (v1 v2 v3 v4 v5 v6 : Int32) :
    ∃ ya ym, f_La_move r_md r_co ta gu so cn de v1 v2 v3 v4 v5 v6 = some ya ∧ f_Mo_move r_mo mc v1 v2 v3 v4 v5 v6 = some ym ∧ ym.1 0 = ya.1 ∧ mk0 r_mo ym.1 ∧ ∃ K', RC B K' ya.2.1 ya.2.2.1 ya.2.2.2.1 ya.2.2.2.2.1 ya.2.2.2.2.2 ym.2 := by
  have hp : f_Mo_isPlace r_mo v1 v2 = f_Co_reaches r_co v1 v2 := isPlace_eq (by rw [hB, hB2]) v1 v2
  have hbad : ∀ x : Int32, 0 < x → f_Mo_move_56 (upd r_mo 0 x) mc v1 v2 v3 v4 v5 v6 = some (upd r_mo 0 x, mc) := fun x hx => by
    unfold f_Mo_move_56
    rw [upd_s, if_neg (Int32.not_le.mpr hx)]
  have e49 : f_Md_move_49 r_md r_co ta gu so cn de = some (2, ta, gu, so, cn, de) := rfl
  have two : f_Md_move r_md r_co ta gu so cn de v1 v2 v3 v4 v5 v6 = some (2, ta, gu, so, cn, de) → f_Mo_move r_mo mc v1 v2 v3 v4 v5 v6 = some (upd r_mo 0 2, mc) → ∃ ya ym, f_La_move r_md r_co ta gu so cn de v1 v2 v3 v4 v5 v6 = some ya ∧ f_Mo_move r_mo mc v1 v2 v3 v4 v5 v6 = some ym ∧ ym.1 0 = ya.1 ∧ mk0 r_mo ym.1 ∧ ∃ K', RC B K' ya.2.1 ya.2.2.1 ya.2.2.2.1 ya.2.2.2.2.1 ya.2.2.2.2.2 ym.2 := fun q1 q2 => by
    refine ⟨(2, ta, gu, so, cn, de), (upd r_mo 0 2, mc), ?_, q2, upd_s r_mo 0 2, mk0_upd _ _, K, h⟩
    unfold f_La_move
    rw [q1, Option.bind_some]
    rfl
  rcases reaches_cases hB h.1 v1 v2 with hr | ⟨c, b, hc, hb, rfl, rfl, hr⟩
  · refine ⟨(1, ta, gu, so, cn, de), (upd r_mo 0 1, mc), ?_, ?_, upd_s r_mo 0 1, mk0_upd _ _, K, h⟩
    · unfold f_La_move f_Md_move
      rw [hr, Option.bind_some]
      rfl
    · unfold f_Mo_move
      rw [hp, hr, Option.bind_some, if_pos rfl, hbad 1 (by decide)]
  · have n10 : ¬ (1 : Int32) = 0 := by decide
    have w3 := within_cases v3 (n := 8) (by omega)
    have w4 := within_cases v4 (n := 11) (by omega)
    have w6 := within_cases v6 (n := 25) (by omega)
    rcases w3 with ⟨q3, q3'⟩ | ⟨g, hg, rfl, q3⟩
    · refine two ?_ ?_
      · unfold f_Md_move
        rw [hr, Option.bind_some, if_neg n10, show (8 : Int32) = nI 8 from rfl, q3, Option.bind_some, if_pos rfl, e49]
      · unfold f_Mo_move
        rw [hp, hr, Option.bind_some, if_neg n10]
        rcases q3' with z | z
        · rw [if_pos z, hbad 2 (by decide)]
        · by_cases z0 : v3 < 0
          · rw [if_pos z0, hbad 2 (by decide)]
          · rw [if_neg z0, if_pos (show (8 : Int32) < v3 from z), hbad 2 (by decide)]
    · have g1 : ¬ nI g < 0 := nI_pos (by omega)
      have g2 : ¬ (8 : Int32) < nI g := nI_nlt (b := g) (a := 8) hg (by omega)
      rcases w4 with ⟨q4, q4'⟩ | ⟨s, hs, rfl, q4⟩
      · refine two ?_ ?_
        · unfold f_Md_move
          rw [hr, Option.bind_some, if_neg n10, show (8 : Int32) = nI 8 from rfl, q3, Option.bind_some, if_neg n10, show (11 : Int32) = nI 11 from rfl, q4, Option.bind_some, if_pos rfl, e49]
        · unfold f_Mo_move
          rw [hp, hr, Option.bind_some, if_neg n10, if_neg g1, if_neg g2]
          rcases q4' with z | z
          · rw [if_pos z, hbad 2 (by decide)]
          · by_cases z0 : v4 < 0
            · rw [if_pos z0, hbad 2 (by decide)]
            · rw [if_neg z0, if_pos (show (11 : Int32) < v4 from z), hbad 2 (by decide)]
      · have s1 : ¬ nI s < 0 := nI_pos (by omega)
        have s2 : ¬ (11 : Int32) < nI s := nI_nlt (b := s) (a := 11) hs (by omega)
        rcases w6 with ⟨q6, q6'⟩ | ⟨d, hd, rfl, q6⟩
        · refine two ?_ ?_
          · unfold f_Md_move
            rw [hr, Option.bind_some, if_neg n10, show (8 : Int32) = nI 8 from rfl, q3, Option.bind_some, if_neg n10, show (11 : Int32) = nI 11 from rfl, q4, Option.bind_some, if_neg n10, show (25 : Int32) = nI 25 from rfl, q6, Option.bind_some, if_pos rfl, e49]
          · unfold f_Mo_move
            rw [hp, hr, Option.bind_some, if_neg n10, if_neg g1, if_neg g2, if_neg s1, if_neg s2]
            by_cases z0 : v6 < 0
            · rw [if_pos z0, hbad 2 (by decide)]
            · have z : nI 25 < v6 := q6'.resolve_left z0
              rw [if_neg z0, if_neg (show ¬ v6 ≤ (25 : Int32) from Int32.not_le.mpr z), hbad 2 (by decide)]
        · have hb4 : b < 4 := Nat.lt_of_lt_of_le hb h.1.2
          refine ⟨(0, upd ta c ((ta c) ||| ((1 : Int32) <<< (nI b &&& 31))), upd gu (c * 4 + b) (nI g), upd so (c * 4 + b) (nI s), upd cn (c * 4 + b) v5, upd de (c * 4 + b) (nI d)), (upd r_mo 0 0, upd (upd (upd (upd mc (16 * c + 4 * b) (nI g)) (16 * c + 4 * b + 1) (nI s)) (16 * c + 4 * b + 2) v5) (16 * c + 4 * b + 3) (nI d)), ?_, ?_, upd_s r_mo 0 0, mk0_upd _ _, _, RC_put h hc hb v5 hg hs hd⟩
          · unfold f_La_move f_Md_move
            rw [hr, Option.bind_some, if_neg n10, show (8 : Int32) = nI 8 from rfl, q3, Option.bind_some, if_neg n10, show (11 : Int32) = nI 11 from rfl, q4, Option.bind_some, if_neg n10, show (25 : Int32) = nI 25 from rfl, q6, Option.bind_some, if_neg n10, put_n hc hb4]
            rfl
          · unfold f_Mo_move
            rw [hp, hr, Option.bind_some, if_neg n10, if_neg g1, if_neg g2, if_neg s1, if_neg s2, if_neg (nI_pos (by omega)), if_pos (show nI d ≤ (25 : Int32) from nI_le (b := 25) hd (by omega)), mput_n (upd_s _ _ _) hc hb4]
