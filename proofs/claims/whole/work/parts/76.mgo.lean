-- ===== the reference goes on =====
abbrev GF : Type := (Nat → Int32) → (Nat → Int32) → (Nat → Int32) → (Nat → Int32) → (Nat → Int32) → (Nat → Int32) → Int32 → Int32 → Int32 → Int32 → Int32 → Int32 → Option ((Nat → Int32) × (Nat → Int32) × (Nat → Int32) × (Nat → Int32))
theorem b2i_z0 : (b2i false = 0) = True := eq_true rfl
theorem b2i_z1 : (b2i true = 0) = False := eq_false (by decide)
theorem g325 (rec : GF) (mo mlat mc md seen que : Nat → Int32) (v2 v3 v4 v5 v6 : Int32) (m : Nat) : f_Mo_goOn_325 rec mo mlat mc md seen que v2 v3 v4 v5 v6 (nI m) = rec mo mlat mc md seen que v2 v3 v4 v5 v6 (nI (m + 1)) := by
  unfold f_Mo_goOn_325
  rw [nm_n, nI_1]
theorem g220 {rec : GF} {mo mlat mc md seen que : Nat → Int32} {v2 v3 v4 v5 v6 v7 v10 v11 : Int32} {y0 y1 y2 : Bool} (k0 : f_Mo_comes mo mlat mc md v6 0 0 = some (b2i y0)) (k1 : f_Mo_comes mo mlat mc md v6 1 v3 = some (b2i y1)) (k2 : f_Mo_comes mo mlat mc md v6 2 v2 = some (b2i y2)) : f_Mo_goOn_220 rec mo mlat mc md seen que v2 v3 v4 v5 v6 v7 v10 v11 = f_Mo_goOn_275 rec mo mlat mc md seen que v2 v3 v4 v5 v6 v7 v10 v11 (((v4 ||| (if y0 = true then (1 : Int32) else 0)) ||| (if y1 = true then (2 : Int32) else 0)) ||| (if y2 = true then (4 : Int32) else 0)) := by
  unfold f_Mo_goOn_220
  cases y0 <;> cases y1 <;> cases y2 <;> simp only [k0, k1, k2, Option.bind_some, b2i_z0, b2i_z1, if_true, if_false, nm_n, Bool.false_eq_true]
theorem g275 {rec : GF} {mo mlat mc md seen que : Nat → Int32} {v2 v3 v4 v5 v6 v10 v11 : Int32} {m : Nat} {x y z : Bool} {o w : Int32} (k1 : f_Mo_ahead mo mlat mc md v6 1 v3 (b2i y) = some o) (k2 : f_Mo_ahead mo mlat mc md v6 2 v2 (b2i z) = some w) : f_Mo_goOn_275 rec mo mlat mc md seen que v2 v3 v4 v5 v6 (nI m) v10 v11 (nI (B3 x y z)) = (f_Mo_come mo seen que v10 v11 (nI (B3 x y z)) o w).bind fun r => rec r.1 mlat mc md r.2.1 r.2.2 v2 v3 v4 v5 v6 (nI (m + 1)) := by
  obtain ⟨a1, a2⟩ := B3_and x y z
  unfold f_Mo_goOn_275
  have f0 : b2i false = 0 := rfl
  have f1 : b2i true = 1 := rfl
  cases y
  · cases z
    · rw [f0] at k1 k2
      rw [if_pos (a1.mpr rfl), k1, Option.bind_some, if_pos (a2.mpr rfl), k2, Option.bind_some]
      simp only [g325]
    · rw [f0] at k1
      rw [f1] at k2
      rw [if_pos (a1.mpr rfl), k1, Option.bind_some, if_neg (fun q => by cases a2.mp q), k2, Option.bind_some]
      simp only [g325]
  · cases z
    · rw [f1] at k1
      rw [f0] at k2
      rw [if_neg (fun q => by cases a1.mp q), k1, Option.bind_some, if_pos (a2.mpr rfl), k2, Option.bind_some]
      simp only [g325]
    · rw [f1] at k1 k2
      rw [if_neg (fun q => by cases a1.mp q), k1, Option.bind_some, if_neg (fun q => by cases a2.mp q), k2, Option.bind_some]
      simp only [g325]
theorem gcome {M : MT} {c c' j' a m : Nat} {L : Nat → Nat} (hLJ : LJ L) {so cn de mo lat mlat mc md seen que : Nat → Int32} (h : MC M c so cn de mc) (hc : c < 64) (hm : MD M md) (hL : LL L lat mlat) (hV : VA L a) (rec : GF) (v5 : Int32) : f_Mo_goOn_220 rec mo mlat mc md seen que (nI (lf L 2 a)) (nI (lf L 1 a)) (nI (hb L a)) v5 (nI c) (nI m) (nI c') (nI j') = (f_Mo_come mo seen que (nI c') (nI j') (nI (hb L (old L M a))) (nI (lf L 1 (old L M a))) (nI (lf L 2 (old L M a)))).bind fun r => rec r.1 mlat mc md r.2.1 r.2.2 (nI (lf L 2 a)) (nI (lf L 1 a)) (nI (hb L a)) v5 (nI c) (nI (m + 1)) := by
  obtain ⟨p1, p2, p3⟩ := lf_le hLJ hV
  have k0 := comes_n (mo := mo) h hc hm hL (u := 0) (left := lf L 0 a) (by omega) (by omega)
  have k1 := comes_n (mo := mo) h hc hm hL (u := 1) (left := lf L 1 a) (by omega) (by omega)
  have k2 := comes_n (mo := mo) h hc hm hL (u := 2) (left := lf L 2 a) (by omega) (by omega)
  have k0' : f_Mo_comes mo mlat mc md (nI c) 0 0 = some (b2i (cmb (L 0) (lf L 0 a) (bgM M 0))) := by
    have e : nI (lf L 0 a) = 0 := by rw [p3]; rfl
    rw [e] at k0; exact k0
  obtain ⟨a01, _⟩ := old_hd (M := M) hLJ hV (u := 0) (by omega)
  obtain ⟨a11, a12⟩ := old_hd (M := M) hLJ hV (u := 1) (by omega)
  obtain ⟨a21, a22⟩ := old_hd (M := M) hLJ hV (u := 2) (by omega)
  have e3 : hb L (old L M a) = B3 (hd L a 0 || cmb (L 0) (lf L 0 a) (bgM M 0)) (hd L a 1 || cmb (L 1) (lf L 1 a) (bgM M 1)) (hd L a 2 || cmb (L 2) (lf L 2 a) (bgM M 2)) := by
    unfold hb
    rw [a01, a11, a21]
  have d1 := ahead_n (mo := mo) h hc hm hL (u := 1) (Or.inl rfl) (left := lf L 1 a) (by omega) (hd L (old L M a) 1)
  have d2 := ahead_n (mo := mo) h hc hm hL (u := 2) (Or.inr rfl) (left := lf L 2 a) (by omega) (hd L (old L M a) 2)
  rw [← a12, a11] at d1
  rw [← a22, a21] at d2
  rw [g220 k0' k1 k2, show hb L a = B3 (hd L a 0) (hd L a 1) (hd L a 2) from rfl, B3_or, e3]
  exact g275 d1 d2
-- ===== where a jump comes from =====
theorem pcl_no {M : MT} (h : clash M 4 = false) : ∀ a b, a < b → b < 4 → pcl M a b = false := fun a b hab hb => by
  rw [clash_p] at h
  simp only [Bool.or_eq_false_iff] at h
  obtain ⟨⟨⟨⟨⟨h1, h2⟩, h3⟩, h4⟩, h5⟩, h6⟩ := h
  rcases (show (a = 0 ∧ b = 1) ∨ (a = 0 ∧ b = 2) ∨ (a = 0 ∧ b = 3) ∨ (a = 1 ∧ b = 2) ∨ (a = 1 ∧ b = 3) ∨ (a = 2 ∧ b = 3) by omega) with ⟨rfl, rfl⟩ | ⟨rfl, rfl⟩ | ⟨rfl, rfl⟩ | ⟨rfl, rfl⟩ | ⟨rfl, rfl⟩ | ⟨rfl, rfl⟩ <;> assumption
theorem jump_one {M : MT} (h : clash M 4 = false) {a b s s' : Nat} {k k' : Int32} (ha : a < 4) (hb : b < 4) (h1 : M a = some (s, k, 24)) (h2 : M b = some (s', k', 24)) : a = b := by
  have e : ∀ x y, M x = some (s, k, 24) → M y = some (s', k', 24) → pcl M x y = true := fun x y p q => by
    unfold pcl; rw [p, q]; simp
  have e' : ∀ x y, M x = some (s', k', 24) → M y = some (s, k, 24) → pcl M x y = true := fun x y p q => by
    unfold pcl; rw [p, q]; simp
  rcases Nat.lt_trichotomy a b with q | q | q
  · have := pcl_no h a b q hb
    rw [e a b h1 h2] at this; cases this
  · exact q
  · have := pcl_no h b a q ha
    rw [e' b a h2 h1] at this; cases this
theorem jsrc_lp {M : MT} {c : Nat} {so cn de mo mc md : Nat → Int32} (h : MC M c so cn de mc) (hc : c < 64) (hm : MD M md) : ∀ (d i n : Nat), i + d = 4 → d < n → (∀ b, b < i → ∀ s k, M b ≠ some (s, k, 24)) → ∃ y, f_Mo_jumpSource_2 n mo mc md (nI c) (nI i) = some y ∧ ((y = mi ∧ ∀ b, b < 4 → ∀ s k, M b ≠ some (s, k, 24)) ∨ ∃ b s k, b < 4 ∧ M b = some (s, k, 24) ∧ y = nI (16 * c + 4 * b))
  | 0, i, n + 1, hi, hn, hx => by
    refine ⟨mi, ?_, Or.inl ⟨rfl, fun b hb => hx b (by omega)⟩⟩
    rw [f_Mo_jumpSource_2]; simp (disch := omega) only [lI, nI_add, pk_mul, nI_leI, nI_ltI, nI_eq, ck_n, nm_n, nI_clamp, Option.bind_some, if_pos, if_neg, bk_n0, bk_n1, nI_sub, upd_s, mi_e, mi_ne, mi_ne2, mi_lt, mi_le, mi_nle, mi_nlt, mi_s, bt_shrE, bit_e, true_and, and_true, if_true, if_false, ne_eq, not_true_eq_false, not_false_eq_true, Bool.false_eq_true, Bool.true_eq_false, reduceCtorEq]
  | d + 1, i, n + 1, hi, hn, hx => by
    have hi4 : i < 4 := by omega
    have hmd := hm i hi4
    rw [f_Mo_jumpSource_2]
    unfold f_Mo_jumpSource_39
    rcases hM : M i with _ | ⟨s, k, dd⟩
    · obtain ⟨y, q1, q2⟩ := jsrc_lp (mo := mo) h hc hm d (i + 1) n (by omega) (by omega) (fun b hb s k => by
        by_cases e : b = i
        · subst e; rw [hM]; intro z; cases z
        · exact hx b (by omega) s k)
      refine ⟨y, ?_, q2⟩
      rw [hM] at hmd
      simp (disch := omega) only [lI, nI_add, pk_mul, nI_leI, nI_ltI, nI_eq, ck_n, nm_n, nI_clamp, Option.bind_some, if_pos, if_neg, bk_n0, bk_n1, nI_sub, upd_s, mi_e, mi_ne, mi_ne2, mi_lt, mi_le, mi_nle, mi_nlt, mi_s, bt_shrE, bit_e, true_and, and_true, if_true, if_false, ne_eq, not_true_eq_false, not_false_eq_true, Bool.false_eq_true, Bool.true_eq_false, reduceCtorEq, hmd, Option.isSome_none, b2i_0, q1]
    · obtain ⟨m1, m2, m3, m4, m5, m6, m7, m8⟩ := h i hi4 s k dd hM
      rw [hM] at hmd
      by_cases e24 : dd = 24
      · subst e24
        refine ⟨nI (16 * c + 4 * i), ?_, Or.inr ⟨i, s, k, hi4, hM, rfl⟩⟩
        simp (disch := omega) only [lI, nI_add, pk_mul, nI_leI, nI_ltI, nI_eq, ck_n, nm_n, nI_clamp, Option.bind_some, if_pos, if_neg, bk_n0, bk_n1, nI_sub, upd_s, mi_e, mi_ne, mi_ne2, mi_lt, mi_le, mi_nle, mi_nlt, mi_s, bt_shrE, bit_e, true_and, and_true, if_true, if_false, ne_eq, not_true_eq_false, not_false_eq_true, Bool.false_eq_true, Bool.true_eq_false, reduceCtorEq, hmd, Option.isSome_some, b2i_0, at_n, m6]
      · obtain ⟨y, q1, q2⟩ := jsrc_lp (mo := mo) h hc hm d (i + 1) n (by omega) (by omega) (fun b hb s k => by
          by_cases e : b = i
          · subst e; rw [hM]; intro z; injection z with z; injection z with _ z; injection z with _ z; exact e24 z
          · exact hx b (by omega) s k)
        refine ⟨y, ?_, q2⟩
        simp (disch := omega) only [lI, nI_add, pk_mul, nI_leI, nI_ltI, nI_eq, ck_n, nm_n, nI_clamp, Option.bind_some, if_pos, if_neg, bk_n0, bk_n1, nI_sub, upd_s, mi_e, mi_ne, mi_ne2, mi_lt, mi_le, mi_nle, mi_nlt, mi_s, bt_shrE, bit_e, true_and, and_true, if_true, if_false, ne_eq, not_true_eq_false, not_false_eq_true, Bool.false_eq_true, Bool.true_eq_false, reduceCtorEq, hmd, Option.isSome_some, b2i_0, at_n, m6, q1]
theorem jsrc_n {M : MT} {c : Nat} {so cn de mo mc md : Nat → Int32} (h : MC M c so cn de mc) (hc : c < 64) (hm : MD M md) : ∃ y, f_Mo_jumpSource mo mc md (nI c) = some y ∧ ((y = mi ∧ ∀ b, b < 4 → ∀ s k, M b ≠ some (s, k, 24)) ∨ ∃ b s k, b < 4 ∧ M b = some (s, k, 24) ∧ y = nI (16 * c + 4 * b)) := jsrc_lp h hc hm 4 0 5000 (by omega) (by omega) (fun b hb => by omega)
theorem any24 {M : MT} : anyM (fun q => q.2.2 == 24) M 4 = true ↔ ∃ b s k, b < 4 ∧ M b = some (s, k, 24) := by
  rw [anyM_iff]
  constructor
  · rintro ⟨b, ⟨s, k, d⟩, h1, h2, h3⟩
    simp only [beq_iff_eq] at h3
    subst h3
    exact ⟨b, s, k, h1, h2⟩
  · rintro ⟨b, s, k, h1, h2⟩
    exact ⟨b, (s, k, 24), h1, h2, by simp⟩
theorem ncj_iff {M : MT} : ncj M = true ↔ ∃ b s k, b < 4 ∧ M b = some (s, k, 24) ∧ s ≠ 11 := by
  unfold ncj
  rw [anyM_iff]
  constructor
  · rintro ⟨b, ⟨s, k, d⟩, h1, h2, h3⟩
    simp only [Bool.and_eq_true, beq_iff_eq, Bool.not_eq_true', beq_eq_false_iff_ne] at h3
    obtain ⟨h3, h4⟩ := h3
    subst h3
    exact ⟨b, s, k, h1, h2, h4⟩
  · rintro ⟨b, s, k, h1, h2, h3⟩
    exact ⟨b, (s, k, 24), h1, h2, by simp [h3]⟩
theorem FTb_cl {M : MT} {h : Nat → Bool} {j : Bool} (e : FTb M h j = 0) : clash M 4 = false ∧ (j = true → anyM (fun q => q.2.2 == 24) M 4 = false) := by
  unfold FTb at e
  by_cases h1 : clash M 4 = true
  · rw [if_pos h1] at e; omega
  · rw [if_neg h1] at e
    refine ⟨by simpa using h1, fun hj => ?_⟩
    by_cases h2 : noRes M h = true
    · rw [if_pos h2] at e; omega
    · rw [if_neg h2] at e
      by_cases h3 : (j && anyM (fun q => q.2.2 == 24) M 4) = true
      · rw [if_pos h3] at e; omega
      · rw [hj] at h3
        simpa using h3
