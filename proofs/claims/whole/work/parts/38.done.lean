-- ===== done =====
theorem mcopy_lp (mo mreg mmem mopn wo : Nat → Int32) (h : RW wo mreg mmem) : ∀ (d i n : Nat) (cp : Nat → Int32), i + d = 72 → d < n → (∀ j, j < i → cp j = wo j) → ∃ c', (∀ j, j < 72 → c' j = wo j) ∧ f_Mo_doAll_2 n mo mreg mmem mopn cp (nI i) = f_Mo_doAll_46 5000 mo mreg mmem mopn c' (nI 0)
  | 0, i, n + 1, cp, hi, hn, hc => by
    rw [f_Mo_doAll_2]; simp (disch := omega) only [lI, nI_add, pk_mul, nI_leI, nI_ltI, nI_eq, ck_n, nm_n, nI_clamp, Option.bind_some, if_pos, if_neg, bk_n0, bk_n1, nI_sub, upd_s, mi_e, mi_ne, mi_ne2, mi_lt, mi_le, mi_nle, mi_nlt, mi_s, bt_shrE, bit_e, true_and, and_true, if_true, if_false, ne_eq, not_true_eq_false, not_false_eq_true, Bool.false_eq_true, Bool.true_eq_false, reduceCtorEq]
    exact ⟨cp, fun j hj => hc j (by omega), rfl⟩
  | d + 1, i, n + 1, cp, hi, hn, hc => by
    rw [f_Mo_doAll_2]
    unfold f_Mo_doAll_38
    by_cases h8 : i < 8
    · simp (disch := omega) only [lI, nI_add, pk_mul, nI_leI, nI_ltI, nI_eq, ck_n, nm_n, nI_clamp, Option.bind_some, if_pos, if_neg, bk_n0, bk_n1, nI_sub, upd_s, mi_e, mi_ne, mi_ne2, mi_lt, mi_le, mi_nle, mi_nlt, mi_s, bt_shrE, bit_e, true_and, and_true, if_true, if_false, ne_eq, not_true_eq_false, not_false_eq_true, Bool.false_eq_true, Bool.true_eq_false, reduceCtorEq]
      refine mcopy_lp mo mreg mmem mopn wo h d (i + 1) n _ (by omega) (by omega) (fun j hj => ?_)
      by_cases e : j = i
      · subst e; rw [upd_s]; exact (h.1 j h8).symm
      · rw [upd_n e]; exact hc j (by omega)
    · simp (disch := omega) only [lI, nI_add, pk_mul, nI_leI, nI_ltI, nI_eq, ck_n, nm_n, nI_clamp, Option.bind_some, if_pos, if_neg, bk_n0, bk_n1, nI_sub, upd_s, mi_e, mi_ne, mi_ne2, mi_lt, mi_le, mi_nle, mi_nlt, mi_s, bt_shrE, bit_e, true_and, and_true, if_true, if_false, ne_eq, not_true_eq_false, not_false_eq_true, Bool.false_eq_true, Bool.true_eq_false, reduceCtorEq]
      refine mcopy_lp mo mreg mmem mopn wo h d (i + 1) n _ (by omega) (by omega) (fun j hj => ?_)
      by_cases e : j = i
      · subst e; rw [upd_s]
        have := h.2 (j - 8) (by omega)
        rw [show 8 + (j - 8) = j by omega] at this
        exact this.symm
      · rw [upd_n e]; exact hc j (by omega)
theorem mplace (x : Int32) : ∃ j, j < 64 ∧ x &&& nI 63 = nI j ∧ f_Md_memoryPlace x = some (nI (8 + j)) := by
  obtain ⟨j, hj, e⟩ := bt_63 x
  refine ⟨j, hj, e, ?_⟩
  unfold f_Md_memoryPlace
  rw [e]; simp (disch := omega) only [lI, nI_add, pk_mul, nI_leI, nI_ltI, nI_eq, ck_n, nm_n, nI_clamp, Option.bind_some, if_pos, if_neg, bk_n0, bk_n1, nI_sub, upd_s, mi_e, mi_ne, mi_ne2, mi_lt, mi_le, mi_nle, mi_nlt, mi_s, bt_shrE, bit_e, true_and, and_true, if_true, if_false, ne_eq, not_true_eq_false, not_false_eq_true, Bool.false_eq_true, Bool.true_eq_false, reduceCtorEq]
/-- two copies that agree below 72 -/
def CA (a b : Nat → Int32) : Prop := ∀ j, j < 72 → a j = b j
theorem CA_upd {a b : Nat → Int32} (h : CA a b) (k : Nat) (v : Int32) : CA (upd a k v) (upd b k v) := fun j hj => by
  by_cases e : j = k
  · subst e; rw [upd_s, upd_s]
  · rw [upd_n e, upd_n e]; exact h j hj
set_option maxHeartbeats 4000000 in
theorem done_lp {wo op ki tg fi se oc mo mreg mmem mopn : Nat → Int32} {O : Nat → Nat × Nat × Nat × Nat × Int32} {N : Nat} (h6 : op 6 = nI N) (h19 : mo 19 = nI N) (h : OL O N ki tg fi se oc mopn) {k : Nat} (hk : k < 72) : ∀ (d i n m : Nat) (cp mcpy : Nat → Int32), i + d = N → d < n → d < m → CA cp mcpy → ∃ cp' mcpy', f_Op_valueBehind_14 n wo op ki tg fi se oc cp (nI k) (nI i) = some (cp' k, cp') ∧ f_Mo_doAll_46 m mo mreg mmem mopn mcpy (nI i) = some mcpy' ∧ CA cp' mcpy'
  | 0, i, n + 1, m + 1, cp, mcpy, hi, hn, hm, hc => by
    have hN := h.1
    refine ⟨cp, mcpy, ?_, ?_, hc⟩
    · rw [f_Op_valueBehind_14]; simp (disch := omega) only [lI, nI_add, pk_mul, nI_leI, nI_ltI, nI_eq, ck_n, nm_n, nI_clamp, Option.bind_some, if_pos, if_neg, bk_n0, bk_n1, nI_sub, upd_s, mi_e, mi_ne, mi_ne2, mi_lt, mi_le, mi_nle, mi_nlt, mi_s, bt_shrE, bit_e, true_and, and_true, if_true, if_false, ne_eq, not_true_eq_false, not_false_eq_true, Bool.false_eq_true, Bool.true_eq_false, reduceCtorEq, h6]
    · rw [f_Mo_doAll_46]; simp (disch := omega) only [lI, nI_add, pk_mul, nI_leI, nI_ltI, nI_eq, ck_n, nm_n, nI_clamp, Option.bind_some, if_pos, if_neg, bk_n0, bk_n1, nI_sub, upd_s, mi_e, mi_ne, mi_ne2, mi_lt, mi_le, mi_nle, mi_nlt, mi_s, bt_shrE, bit_e, true_and, and_true, if_true, if_false, ne_eq, not_true_eq_false, not_false_eq_true, Bool.false_eq_true, Bool.true_eq_false, reduceCtorEq, h19]
  | d + 1, i, n + 1, m + 1, cp, mcpy, hi, hn, hm, hc => by
    have hN := h.1
    obtain ⟨a1, a2, a3, a4, a5, b1, b2, b3, b4, b5, k1, k2, k3, k4⟩ := h.2 i (by omega)
    rw [f_Op_valueBehind_14, f_Mo_doAll_46]
    unfold f_Op_perform f_Op_valueOf f_Mo_sideOf f_Mo_doAll_117 f_Mo_doAll_197
    have go := fun k v => done_lp (wo := wo) (mreg := mreg) (mmem := mmem) h6 h19 h hk d (i + 1) n m (upd cp k v) (upd mcpy k v) (by omega) (by omega) (by omega) (CA_upd hc k v)
    generalize hO : O i = q at *
    obtain ⟨kk, dd, aa, bb, cc⟩ := q
    simp only at a1 a2 a3 a4 a5 b1 b2 b3 b4 b5 k1 k2 k3 k4
    simp (disch := omega) only [lI, nI_add, pk_mul, nI_leI, nI_ltI, nI_eq, ck_n, nm_n, nI_clamp, Option.bind_some, if_pos, if_neg, bk_n0, bk_n1, nI_sub, upd_s, mi_e, mi_ne, mi_ne2, mi_lt, mi_le, mi_nle, mi_nlt, mi_s, bt_shrE, bit_e, true_and, and_true, if_true, if_false, ne_eq, not_true_eq_false, not_false_eq_true, Bool.false_eq_true, Bool.true_eq_false, reduceCtorEq, h6, h19, a1, a2, a3, a4, a5, b1, b2, b3, b4, b5]
    -- the two sides
    obtain ⟨x, hx1, hx2⟩ : ∃ x, (if aa = 8 then some cc else some (cp aa)) = some x ∧ (if aa = 8 then some cc else some (mcpy aa)) = some x := by
      by_cases e : aa = 8
      · exact ⟨cc, by rw [if_pos e], by rw [if_pos e]⟩
      · exact ⟨cp aa, by rw [if_neg e], by rw [if_neg e, hc aa (by omega)]⟩
    obtain ⟨y, hy1, hy2⟩ : ∃ x, (if bb = 8 then some cc else some (cp bb)) = some x ∧ (if bb = 8 then some cc else some (mcpy bb)) = some x := by
      by_cases e : bb = 8
      · exact ⟨cc, by rw [if_pos e], by rw [if_pos e]⟩
      · exact ⟨cp bb, by rw [if_neg e], by rw [if_neg e, hc bb (by omega)]⟩
    obtain ⟨j, hj, e1, e2⟩ := mplace x
    simp (disch := omega) only [lI, nI_add, pk_mul, nI_leI, nI_ltI, nI_eq, ck_n, nm_n, nI_clamp, Option.bind_some, if_pos, if_neg, bk_n0, bk_n1, nI_sub, upd_s, mi_e, mi_ne, mi_ne2, mi_lt, mi_le, mi_nle, mi_nlt, mi_s, bt_shrE, bit_e, true_and, and_true, if_true, if_false, ne_eq, not_true_eq_false, not_false_eq_true, Bool.false_eq_true, Bool.true_eq_false, reduceCtorEq, hx1, hx2, hy1, hy2, e1, e2]
    rcases (show kk = 0 ∨ kk = 1 ∨ kk = 2 ∨ kk = 3 ∨ kk = 4 by omega) with rfl | rfl | rfl | rfl | rfl
    · simp (disch := omega) only [lI, nI_add, pk_mul, nI_leI, nI_ltI, nI_eq, ck_n, nm_n, nI_clamp, Option.bind_some, if_pos, if_neg, bk_n0, bk_n1, nI_sub, upd_s, mi_e, mi_ne, mi_ne2, mi_lt, mi_le, mi_nle, mi_nlt, mi_s, bt_shrE, bit_e, true_and, and_true, if_true, if_false, ne_eq, not_true_eq_false, not_false_eq_true, Bool.false_eq_true, Bool.true_eq_false, reduceCtorEq]; exact go _ _
    · simp (disch := omega) only [lI, nI_add, pk_mul, nI_leI, nI_ltI, nI_eq, ck_n, nm_n, nI_clamp, Option.bind_some, if_pos, if_neg, bk_n0, bk_n1, nI_sub, upd_s, mi_e, mi_ne, mi_ne2, mi_lt, mi_le, mi_nle, mi_nlt, mi_s, bt_shrE, bit_e, true_and, and_true, if_true, if_false, ne_eq, not_true_eq_false, not_false_eq_true, Bool.false_eq_true, Bool.true_eq_false, reduceCtorEq]; exact go _ _
    · simp (disch := omega) only [lI, nI_add, pk_mul, nI_leI, nI_ltI, nI_eq, ck_n, nm_n, nI_clamp, Option.bind_some, if_pos, if_neg, bk_n0, bk_n1, nI_sub, upd_s, mi_e, mi_ne, mi_ne2, mi_lt, mi_le, mi_nle, mi_nlt, mi_s, bt_shrE, bit_e, true_and, and_true, if_true, if_false, ne_eq, not_true_eq_false, not_false_eq_true, Bool.false_eq_true, Bool.true_eq_false, reduceCtorEq]; exact go _ _
    · simp (disch := omega) only [lI, nI_add, pk_mul, nI_leI, nI_ltI, nI_eq, ck_n, nm_n, nI_clamp, Option.bind_some, if_pos, if_neg, bk_n0, bk_n1, nI_sub, upd_s, mi_e, mi_ne, mi_ne2, mi_lt, mi_le, mi_nle, mi_nlt, mi_s, bt_shrE, bit_e, true_and, and_true, if_true, if_false, ne_eq, not_true_eq_false, not_false_eq_true, Bool.false_eq_true, Bool.true_eq_false, reduceCtorEq, hc (8 + j) (by omega)]; exact go _ _
    · simp (disch := omega) only [lI, nI_add, pk_mul, nI_leI, nI_ltI, nI_eq, ck_n, nm_n, nI_clamp, Option.bind_some, if_pos, if_neg, bk_n0, bk_n1, nI_sub, upd_s, mi_e, mi_ne, mi_ne2, mi_lt, mi_le, mi_nle, mi_nlt, mi_s, bt_shrE, bit_e, true_and, and_true, if_true, if_false, ne_eq, not_true_eq_false, not_false_eq_true, Bool.false_eq_true, Bool.true_eq_false, reduceCtorEq]; exact go _ _
theorem case_done {r_md r_ma wo op ki tg fi se oc cp mo mreg mmem mopn mcpy : Nat → Int32} {out : Nat → Int64} (hw : RW wo mreg mmem) (h : RO op ki tg fi se oc mo mopn) (v : Int32) :
    ∃ ya ym, f_La_done r_md r_ma wo op ki tg fi se oc cp out v = some ya ∧ f_Mo_done mo mreg mmem mopn mcpy v = some ym ∧ ym.2.1 0 = ya.1 ∧ mk0 mo ym.2.1 ∧ (ya.1 = 0 → ya.2.2 0 = ym.1.toInt64) := by
  obtain ⟨O, N, h6, h19, h⟩ := h
  rcases place_cases v with ⟨e, hv⟩ | ⟨k, hk, rfl, e⟩
  · refine ⟨(1, cp, out), (0, upd mo 0 1, mcpy), ?_, ?_, upd_s mo 0 1, mk0_upd _ _, ?_⟩
    · unfold f_La_done f_Md_done; rw [e]; rfl
    · unfold f_Mo_done
      have e2 : f_Mo_done_19 (upd mo 0 1) mreg mmem mopn mcpy v = some (0, upd mo 0 1, mcpy) := by
        unfold f_Mo_done_19; rw [upd_s]; rfl
      rcases hv with hv | ⟨hv, hv2⟩
      · rw [if_pos hv, e2]
      · rw [if_neg hv, if_neg hv2, e2]
    · intro hc; exact absurd hc (show ¬ (1 : Int32) = 0 by decide)
  · have hN := h.1
    have h19' : upd mo 0 (nI 0) 19 = nI N := by rw [upd_n (by omega)]; exact h19
    obtain ⟨c', c1, c2⟩ := mcopy_lp (upd mo 0 (nI 0)) mreg mmem mopn wo hw 72 0 5000 mcpy (by omega) (by omega) (fun j hj => by omega)
    obtain ⟨cp', m2, q1, q2, r2⟩ := done_lp (wo := wo) (mreg := mreg) (mmem := mmem) h6 h19' h hk N 0 5000 5000 (va_cpy wo cp 0 0 72) c' (by omega) (by omega) (by omega) (fun j hj => by rw [pk_cpy_in (by omega) (by omega), c1 j hj, Nat.sub_zero, Nat.zero_add])
    have r1 : f_Mo_doAll (upd mo 0 (nI 0)) mreg mmem mopn mcpy = some m2 := c2.trans q2
    refine ⟨(0, cp', vp_updL out 0 (cp' k).toInt64), (m2 k, upd mo 0 0, m2), ?_, ?_, upd_s mo 0 0, mk0_upd _ _, ?_⟩
    · unfold f_La_done f_Md_done f_Op_valueBehind
      rw [e]
      simp (disch := omega) only [lI, nI_add, pk_mul, nI_leI, nI_ltI, nI_eq, ck_n, nm_n, nI_clamp, Option.bind_some, if_pos, if_neg, bk_n0, bk_n1, nI_sub, upd_s, mi_e, mi_ne, mi_ne2, mi_lt, mi_le, mi_nle, mi_nlt, mi_s, bt_shrE, bit_e, true_and, and_true, if_true, if_false, ne_eq, not_true_eq_false, not_false_eq_true, Bool.false_eq_true, Bool.true_eq_false, reduceCtorEq, q1]
    · unfold f_Mo_done f_Mo_done_19
      simp (disch := omega) only [lI, nI_add, pk_mul, nI_leI, nI_ltI, nI_eq, ck_n, nm_n, nI_clamp, Option.bind_some, if_pos, if_neg, bk_n0, bk_n1, nI_sub, upd_s, mi_e, mi_ne, mi_ne2, mi_lt, mi_le, mi_nle, mi_nlt, mi_s, bt_shrE, bit_e, true_and, and_true, if_true, if_false, ne_eq, not_true_eq_false, not_false_eq_true, Bool.false_eq_true, Bool.true_eq_false, reduceCtorEq, r1]
    · intro _
      rw [← r2 k hk]; exact updL_s out 0 _
