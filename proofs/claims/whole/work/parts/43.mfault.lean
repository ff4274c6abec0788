-- ===== the fault, as the model says it =====
def anyF (P : Nat × Int32 × Nat → Bool) (M : MT) : Nat → Nat → Bool
  | _, 0 => false
  | i, d + 1 => (match M i with | none => false | some q => P q) || anyF P M (i + 1) d
theorem anyF_4 (P : Nat × Int32 × Nat → Bool) (M : MT) : anyF P M 0 4 = anyM P M 4 := by
  simp only [anyF, anyM]
  rcases M 0 with _ | p0 <;> rcases M 1 with _ | p1 <;> rcases M 2 with _ | p2 <;> rcases M 3 with _ | p3 <;> simp [Bool.or_assoc]
def MD (M : MT) (md : Nat → Int32) : Prop := ∀ b, b < 4 → md b = b2i (M b).isSome
theorem anyF_none {P : Nat × Int32 × Nat → Bool} {M : MT} {i d : Nat} (h : M i = none) : anyF P M i (d + 1) = anyF P M (i + 1) d := by simp [anyF, h]
theorem anyF_some {P : Nat × Int32 × Nat → Bool} {M : MT} {i d : Nat} {q : Nat × Int32 × Nat} (h : M i = some q) : anyF P M i (d + 1) = (P q || anyF P M (i + 1) d) := by simp [anyF, h]
theorem isMade_lp {M : MT} {c : Nat} {so cn de mo mc md : Nat → Int32} (h : MC M c so cn de mc) (hc : c < 64) (hm : MD M md) {e : Nat} (he : e < 100) : ∀ (d i n : Nat), i + d = 4 → d < n → f_Mo_isMade_2 n mo mc md (nI c) (nI e) (nI i) = some (b2i (anyF (fun q => q.2.2 == e) M i d))
  | 0, i, n + 1, hi, hn => by rw [f_Mo_isMade_2]; simp (disch := omega) only [lI, nI_add, pk_mul, nI_leI, nI_ltI, nI_eq, ck_n, nm_n, nI_clamp, Option.bind_some, if_pos, if_neg, bk_n0, bk_n1, nI_sub, upd_s, mi_e, mi_ne, mi_ne2, mi_lt, mi_le, mi_nle, mi_nlt, mi_s, bt_shrE, bit_e, true_and, and_true, if_true, if_false, ne_eq, not_true_eq_false, not_false_eq_true, Bool.false_eq_true, Bool.true_eq_false, reduceCtorEq]; rfl
  | d + 1, i, n + 1, hi, hn => by
    have ih := isMade_lp h hc hm (mo := mo) he d (i + 1) n (by omega) (by omega)
    rw [f_Mo_isMade_2]
    unfold f_Mo_isMade_34
    have hb := hm i (by omega)
    rcases hM : M i with _ | ⟨s, k, dd⟩
    · rw [hM] at hb
      simp (disch := omega) only [lI, nI_add, pk_mul, nI_leI, nI_ltI, nI_eq, ck_n, nm_n, nI_clamp, Option.bind_some, if_pos, if_neg, bk_n0, bk_n1, nI_sub, upd_s, mi_e, mi_ne, mi_ne2, mi_lt, mi_le, mi_nle, mi_nlt, mi_s, bt_shrE, bit_e, true_and, and_true, if_true, if_false, ne_eq, not_true_eq_false, not_false_eq_true, Bool.false_eq_true, Bool.true_eq_false, reduceCtorEq, hb, b2i_0, Option.isSome_none, ih, anyF_none hM]
    · rw [hM] at hb
      obtain ⟨_, _, _, a1, a2, a3, hs, hd⟩ := h i (by omega) s k dd hM
      rw [anyF_some hM]
      by_cases e1 : dd = e
      · simp (disch := omega) only [lI, nI_add, pk_mul, nI_leI, nI_ltI, nI_eq, ck_n, nm_n, nI_clamp, Option.bind_some, if_pos, if_neg, bk_n0, bk_n1, nI_sub, upd_s, mi_e, mi_ne, mi_ne2, mi_lt, mi_le, mi_nle, mi_nlt, mi_s, bt_shrE, bit_e, true_and, and_true, if_true, if_false, ne_eq, not_true_eq_false, not_false_eq_true, Bool.false_eq_true, Bool.true_eq_false, reduceCtorEq, hb, b2i_0, Option.isSome_some, at_n, a3]
        simp [e1]; rfl
      · simp (disch := omega) only [lI, nI_add, pk_mul, nI_leI, nI_ltI, nI_eq, ck_n, nm_n, nI_clamp, Option.bind_some, if_pos, if_neg, bk_n0, bk_n1, nI_sub, upd_s, mi_e, mi_ne, mi_ne2, mi_lt, mi_le, mi_nle, mi_nlt, mi_s, bt_shrE, bit_e, true_and, and_true, if_true, if_false, ne_eq, not_true_eq_false, not_false_eq_true, Bool.false_eq_true, Bool.true_eq_false, reduceCtorEq, hb, b2i_0, Option.isSome_some, at_n, a3, ih]
        simp [beq_false_of_ne e1]
theorem isMade_n {M : MT} {c : Nat} {so cn de mo mc md : Nat → Int32} (h : MC M c so cn de mc) (hc : c < 64) (hm : MD M md) {e : Nat} (he : e < 100) : f_Mo_isMade mo mc md (nI c) (nI e) = some (b2i (anyM (fun q => q.2.2 == e) M 4)) := by
  rw [← anyF_4]
  exact isMade_lp h hc hm he 4 0 5000 (by omega) (by omega)
theorem reads_lp {M : MT} {c : Nat} {so cn de mo mc md : Nat → Int32} (h : MC M c so cn de mc) (hc : c < 64) (hm : MD M md) (x : Int32) : ∀ (d i n : Nat), i + d = 4 → d < n → f_Mo_reads_2 n mo mc md (nI c) x (nI i) = some (b2i (anyF (fun q => decide (8 ≤ q.1) && decide (q.1 < 11) && !bt x (q.1 - 8)) M i d))
  | 0, i, n + 1, hi, hn => by rw [f_Mo_reads_2]; simp (disch := omega) only [lI, nI_add, pk_mul, nI_leI, nI_ltI, nI_eq, ck_n, nm_n, nI_clamp, Option.bind_some, if_pos, if_neg, bk_n0, bk_n1, nI_sub, upd_s, mi_e, mi_ne, mi_ne2, mi_lt, mi_le, mi_nle, mi_nlt, mi_s, bt_shrE, bit_e, true_and, and_true, if_true, if_false, ne_eq, not_true_eq_false, not_false_eq_true, Bool.false_eq_true, Bool.true_eq_false, reduceCtorEq]; rfl
  | d + 1, i, n + 1, hi, hn => by
    have ih := reads_lp h hc hm (mo := mo) x d (i + 1) n (by omega) (by omega)
    rw [f_Mo_reads_2]
    unfold f_Mo_reads_74
    have hb := hm i (by omega)
    rcases hM : M i with _ | ⟨s, k, dd⟩
    · rw [hM] at hb
      simp (disch := omega) only [lI, nI_add, pk_mul, nI_leI, nI_ltI, nI_eq, ck_n, nm_n, nI_clamp, Option.bind_some, if_pos, if_neg, bk_n0, bk_n1, nI_sub, upd_s, mi_e, mi_ne, mi_ne2, mi_lt, mi_le, mi_nle, mi_nlt, mi_s, bt_shrE, bit_e, true_and, and_true, if_true, if_false, ne_eq, not_true_eq_false, not_false_eq_true, Bool.false_eq_true, Bool.true_eq_false, reduceCtorEq, hb, b2i_0, Option.isSome_none, ih, anyF_none hM]
    · rw [hM] at hb
      obtain ⟨_, _, _, a1, a2, a3, hs, hd⟩ := h i (by omega) s k dd hM
      rw [anyF_some hM]
      by_cases h8 : s < 8
      · simp (disch := omega) only [lI, nI_add, pk_mul, nI_leI, nI_ltI, nI_eq, ck_n, nm_n, nI_clamp, Option.bind_some, if_pos, if_neg, bk_n0, bk_n1, nI_sub, upd_s, mi_e, mi_ne, mi_ne2, mi_lt, mi_le, mi_nle, mi_nlt, mi_s, bt_shrE, bit_e, true_and, and_true, if_true, if_false, ne_eq, not_true_eq_false, not_false_eq_true, Bool.false_eq_true, Bool.true_eq_false, reduceCtorEq, hb, b2i_0, Option.isSome_some, at_n, a1, ih]
        have : ¬ 8 ≤ s := by omega
        simp [this]
      · by_cases h11 : s < 11
        · simp (disch := omega) only [lI, nI_add, pk_mul, nI_leI, nI_ltI, nI_eq, ck_n, nm_n, nI_clamp, Option.bind_some, if_pos, if_neg, bk_n0, bk_n1, nI_sub, upd_s, mi_e, mi_ne, mi_ne2, mi_lt, mi_le, mi_nle, mi_nlt, mi_s, bt_shrE, bit_e, true_and, and_true, if_true, if_false, ne_eq, not_true_eq_false, not_false_eq_true, Bool.false_eq_true, Bool.true_eq_false, reduceCtorEq, hb, b2i_0, Option.isSome_some, at_n, a1, ih]
          have h8' : 8 ≤ s := by omega
          cases bt x (s - 8)
          · simp [h11, h8']; rfl
          · simp
        · simp (disch := omega) only [lI, nI_add, pk_mul, nI_leI, nI_ltI, nI_eq, ck_n, nm_n, nI_clamp, Option.bind_some, if_pos, if_neg, bk_n0, bk_n1, nI_sub, upd_s, mi_e, mi_ne, mi_ne2, mi_lt, mi_le, mi_nle, mi_nlt, mi_s, bt_shrE, bit_e, true_and, and_true, if_true, if_false, ne_eq, not_true_eq_false, not_false_eq_true, Bool.false_eq_true, Bool.true_eq_false, reduceCtorEq, hb, b2i_0, Option.isSome_some, at_n, a1, ih]
          simp [h11]
theorem reads_n {M : MT} {c : Nat} {so cn de mo mc md : Nat → Int32} (h : MC M c so cn de mc) (hc : c < 64) (hm : MD M md) (x : Int32) : f_Mo_reads mo mc md (nI c) x = some (b2i (noRes M (bt x))) := by
  unfold noRes
  rw [← anyF_4]
  exact reads_lp h hc hm x 4 0 5000 (by omega) (by omega)
theorem much100_lp (mo mc md : Nat → Int32) {m w : Nat} (hw : w ≤ 4) : ∀ (d i n : Nat), i + d = 8 → d < n → f_Mo_isMuch_100 n mo mc md (nI m) (nI w) (nI (cnt (Nat.testBit m) i)) (nI i) = some (b2i (decide (2 < cnt (Nat.testBit m) 8) || decide (1 < w)))
  | 0, i, n + 1, hi, hn => by
    have : i = 8 := by omega
    subst this
    have c1 := cnt_le (Nat.testBit m) 8
    rw [f_Mo_isMuch_100]
    unfold f_Mo_isMuch_135
    by_cases h1 : 2 < cnt (Nat.testBit m) 8
    · simp (disch := omega) only [lI, nI_add, pk_mul, nI_leI, nI_ltI, nI_eq, ck_n, nm_n, nI_clamp, Option.bind_some, if_pos, if_neg, bk_n0, bk_n1, nI_sub, upd_s, mi_e, mi_ne, mi_ne2, mi_lt, mi_le, mi_nle, mi_nlt, mi_s, bt_shrE, bit_e, true_and, and_true, if_true, if_false, ne_eq, not_true_eq_false, not_false_eq_true, Bool.false_eq_true, Bool.true_eq_false, reduceCtorEq]; simp [h1]; rfl
    · by_cases h2 : 1 < w
      · simp (disch := omega) only [lI, nI_add, pk_mul, nI_leI, nI_ltI, nI_eq, ck_n, nm_n, nI_clamp, Option.bind_some, if_pos, if_neg, bk_n0, bk_n1, nI_sub, upd_s, mi_e, mi_ne, mi_ne2, mi_lt, mi_le, mi_nle, mi_nlt, mi_s, bt_shrE, bit_e, true_and, and_true, if_true, if_false, ne_eq, not_true_eq_false, not_false_eq_true, Bool.false_eq_true, Bool.true_eq_false, reduceCtorEq]; simp [h2]; rfl
      · simp (disch := omega) only [lI, nI_add, pk_mul, nI_leI, nI_ltI, nI_eq, ck_n, nm_n, nI_clamp, Option.bind_some, if_pos, if_neg, bk_n0, bk_n1, nI_sub, upd_s, mi_e, mi_ne, mi_ne2, mi_lt, mi_le, mi_nle, mi_nlt, mi_s, bt_shrE, bit_e, true_and, and_true, if_true, if_false, ne_eq, not_true_eq_false, not_false_eq_true, Bool.false_eq_true, Bool.true_eq_false, reduceCtorEq]; simp [h1, h2]; rfl
  | d + 1, i, n + 1, hi, hn => by
    have ih := much100_lp mo mc md (m := m) hw d (i + 1) n (by omega) (by omega)
    rw [f_Mo_isMuch_100]
    simp (disch := omega) only [lI, nI_add, pk_mul, nI_leI, nI_ltI, nI_eq, ck_n, nm_n, nI_clamp, Option.bind_some, if_pos, if_neg, bk_n0, bk_n1, nI_sub, upd_s, mi_e, mi_ne, mi_ne2, mi_lt, mi_le, mi_nle, mi_nlt, mi_s, bt_shrE, bit_e, true_and, and_true, if_true, if_false, ne_eq, not_true_eq_false, not_false_eq_true, Bool.false_eq_true, Bool.true_eq_false, reduceCtorEq]
    rw [bt_shr1E (nI m) (by omega), bt_nI (by omega)]
    have e : nI (cnt (Nat.testBit m) i) + (if m.testBit i = true then nI 1 else nI 0) = nI (cnt (Nat.testBit m) (i + 1)) := by
      show _ = nI (cnt (Nat.testBit m) i + (if m.testBit i = true then 1 else 0))
      split <;> rw [nI_add]
    rw [e]; exact ih
theorem much_lp {M : MT} {c : Nat} {so cn de mo mc md : Nat → Int32} (h : MC M c so cn de mc) (hc : c < 64) (hm : MD M md) : ∀ (d i n : Nat) (x : Int32), i + d = 4 → d < n → (∀ t, t < 32 → bt x t = rdM M i t) → f_Mo_isMuch_7 n mo mc md (nI c) x (nI (wrM M i)) (nI i) = some (b2i (much M))
  | 0, i, n + 1, x, hi, hn, hx => by
    have : i = 4 := by omega
    subst this
    rw [f_Mo_isMuch_7]
    simp (disch := omega) only [lI, nI_add, pk_mul, nI_leI, nI_ltI, nI_eq, ck_n, nm_n, nI_clamp, Option.bind_some, if_pos, if_neg, bk_n0, bk_n1, nI_sub, upd_s, mi_e, mi_ne, mi_ne2, mi_lt, mi_le, mi_nle, mi_nlt, mi_s, bt_shrE, bit_e, true_and, and_true, if_true, if_false, ne_eq, not_true_eq_false, not_false_eq_true, Bool.false_eq_true, Bool.true_eq_false, reduceCtorEq]
    obtain ⟨m, hm1, e, hb⟩ := bt_small (x := x) 8 (fun t h8 ht => by
      rw [hx t ht]
      unfold rdM
      rw [Bool.eq_false_iff]
      intro hn
      obtain ⟨b, q, h1, h2, h3⟩ := (anyM_iff 4).mp hn
      simp only [Bool.and_eq_true, decide_eq_true_eq] at h3
      omega)
    have e1 : cnt (Nat.testBit m) 8 = cnt (rdM M 4) 8 := cnt_congr 8 (fun t ht => by rw [← hb t (by omega), hx t (by omega)])
    have := much100_lp mo mc md (m := m) (wr_le (M := M) 4) 8 0 5000 (by omega) (by omega)
    rw [e1] at this
    rw [e]
    exact this
  | d + 1, i, n + 1, x, hi, hn, hx => by
    have w4 := wr_le (M := M) i
    rw [f_Mo_isMuch_7]
    unfold f_Mo_isMuch_62 f_Mo_isMuch_88
    have hb := hm i (by omega)
    rcases hM : M i with _ | ⟨s, k, dd⟩
    · rw [hM] at hb
      simp (disch := omega) only [lI, nI_add, pk_mul, nI_leI, nI_ltI, nI_eq, ck_n, nm_n, nI_clamp, Option.bind_some, if_pos, if_neg, bk_n0, bk_n1, nI_sub, upd_s, mi_e, mi_ne, mi_ne2, mi_lt, mi_le, mi_nle, mi_nlt, mi_s, bt_shrE, bit_e, true_and, and_true, if_true, if_false, ne_eq, not_true_eq_false, not_false_eq_true, Bool.false_eq_true, Bool.true_eq_false, reduceCtorEq, hb, b2i_0, Option.isSome_none]
      have e1 : wrM M (i + 1) = wrM M i := by simp [wrM, hM]
      rw [← e1]
      exact much_lp h hc hm d (i + 1) n x (by omega) (by omega) (fun t ht => by rw [hx t ht]; unfold rdM; rw [anyM_none hM])
    · rw [hM] at hb
      obtain ⟨_, _, _, a1, a2, a3, hs, hd⟩ := h i (by omega) s k dd hM
      have e1 : wrM M (i + 1) = wrM M i + if dd < 8 then 1 else 0 := by simp [wrM, hM]
      have go : ∀ y : Int32, (∀ t, t < 32 → bt y t = rdM M (i + 1) t) → f_Mo_isMuch_7 n mo mc md (nI c) y (nI (wrM M (i + 1))) (nI (i + 1)) = some (b2i (much M)) := fun y hy => much_lp h hc hm d (i + 1) n y (by omega) (by omega) hy
      rw [e1] at go
      by_cases h8 : s < 8
      · have hy : ∀ t, t < 32 → bt (x ||| bit s) t = rdM M (i + 1) t := fun t ht => by
          rw [bt_or, bt_bit (by omega), hx t ht]
          unfold rdM
          rw [anyM_some hM]
          congr 1
          by_cases e : t = s
          · subst e; simp [h8]
          · have : ¬ s = t := fun q => e q.symm
            simp [e, beq_false_of_ne this]
        by_cases d8 : dd < 8
        · simp (disch := omega) only [lI, nI_add, pk_mul, nI_leI, nI_ltI, nI_eq, ck_n, nm_n, nI_clamp, Option.bind_some, if_pos, if_neg, bk_n0, bk_n1, nI_sub, upd_s, mi_e, mi_ne, mi_ne2, mi_lt, mi_le, mi_nle, mi_nlt, mi_s, bt_shrE, bit_e, true_and, and_true, if_true, if_false, ne_eq, not_true_eq_false, not_false_eq_true, Bool.false_eq_true, Bool.true_eq_false, reduceCtorEq, hb, b2i_0, Option.isSome_some, at_n, a1, a3]
          rw [if_pos d8] at go; exact go _ hy
        · simp (disch := omega) only [lI, nI_add, pk_mul, nI_leI, nI_ltI, nI_eq, ck_n, nm_n, nI_clamp, Option.bind_some, if_pos, if_neg, bk_n0, bk_n1, nI_sub, upd_s, mi_e, mi_ne, mi_ne2, mi_lt, mi_le, mi_nle, mi_nlt, mi_s, bt_shrE, bit_e, true_and, and_true, if_true, if_false, ne_eq, not_true_eq_false, not_false_eq_true, Bool.false_eq_true, Bool.true_eq_false, reduceCtorEq, hb, b2i_0, Option.isSome_some, at_n, a1, a3]
          rw [if_neg d8] at go; exact go _ hy
      · have hy : ∀ t, t < 32 → bt x t = rdM M (i + 1) t := fun t ht => by
          rw [hx t ht]
          unfold rdM
          rw [anyM_some hM]
          by_cases e : s = t
          · have : ¬ t < 8 := by omega
            simp [this]
          · simp [beq_false_of_ne e]
        by_cases d8 : dd < 8
        · simp (disch := omega) only [lI, nI_add, pk_mul, nI_leI, nI_ltI, nI_eq, ck_n, nm_n, nI_clamp, Option.bind_some, if_pos, if_neg, bk_n0, bk_n1, nI_sub, upd_s, mi_e, mi_ne, mi_ne2, mi_lt, mi_le, mi_nle, mi_nlt, mi_s, bt_shrE, bit_e, true_and, and_true, if_true, if_false, ne_eq, not_true_eq_false, not_false_eq_true, Bool.false_eq_true, Bool.true_eq_false, reduceCtorEq, hb, b2i_0, Option.isSome_some, at_n, a1, a3]
          rw [if_pos d8] at go; exact go _ hy
        · simp (disch := omega) only [lI, nI_add, pk_mul, nI_leI, nI_ltI, nI_eq, ck_n, nm_n, nI_clamp, Option.bind_some, if_pos, if_neg, bk_n0, bk_n1, nI_sub, upd_s, mi_e, mi_ne, mi_ne2, mi_lt, mi_le, mi_nle, mi_nlt, mi_s, bt_shrE, bit_e, true_and, and_true, if_true, if_false, ne_eq, not_true_eq_false, not_false_eq_true, Bool.false_eq_true, Bool.true_eq_false, reduceCtorEq, hb, b2i_0, Option.isSome_some, at_n, a1, a3]
          rw [if_neg d8] at go; exact go _ hy
theorem much_n {M : MT} {c : Nat} {so cn de mo mc md : Nat → Int32} (h : MC M c so cn de mc) (hc : c < 64) (hm : MD M md) : f_Mo_isMuch mo mc md (nI c) = some (b2i (much M)) :=
  much_lp h hc hm 4 0 5000 0 (by omega) (by omega) (fun t _ => bt_zero t)
def pcl (M : MT) (a b : Nat) : Bool := match M a with | none => false | some p => match M b with | none => false | some q => TG p.2.2 == TG q.2.2
theorem clash_p (M : MT) : clash M 4 = (pcl M 0 1 || pcl M 0 2 || pcl M 0 3 || pcl M 1 2 || pcl M 1 3 || pcl M 2 3) := by
  simp only [clash, anyM, pcl]
  rcases M 0 with _ | p0 <;> rcases M 1 with _ | p1 <;> rcases M 2 with _ | p2 <;> rcases M 3 with _ | p3 <;> simp [Bool.or_assoc, Bool.or_comm, Bool.or_left_comm]
theorem isClash_k : ∀ x, x < 26 → ∀ y, y < 26 → (if nI x = nI y then f_Mo_isClash_85 z32 z32 else (f_Mo_unitOf (nI x)).bind fun y8 => if y8 = mi then f_Mo_isClash_57 z32 z32 (nI x) (nI y) else (f_Mo_unitOf (nI x)).bind fun y10 => (f_Mo_unitOf (nI y)).bind fun y11 => if y10 = y11 then f_Mo_isClash_85 z32 z32 else f_Mo_isClash_57 z32 z32 (nI x) (nI y)) = some (b2i (TG x == TG y)) := by decide +kernel
theorem isClash_n {M : MT} {c : Nat} {so cn de mo mc : Nat → Int32} (h : MC M c so cn de mc) (hc : c < 64) {a b : Nat} (ha : a < 4) (hb : b < 4) {p q : Nat × Int32 × Nat} (hp : M a = some p) (hq : M b = some q) : f_Mo_isClash mo mc (nI c) (nI a) (nI b) = some (b2i (TG p.2.2 == TG q.2.2)) := by
  obtain ⟨ps, pk, pd⟩ := p
  obtain ⟨qs, qk, qd⟩ := q
  obtain ⟨_, _, _, _, _, a3, _, hd⟩ := h a ha _ _ _ hp
  obtain ⟨_, _, _, _, _, b3, _, hd2⟩ := h b hb _ _ _ hq
  have key := isClash_k pd (by omega) qd (by omega)
  unfold f_Mo_isClash
  simp (disch := omega) only [at_n, Option.bind_some, lI, nI_add, ck_n, nm_n, nI_clamp, a3, b3, mi_e]
  exact key
theorem fault15_s {M : MT} {c : Nat} {so cn de mo mc md : Nat → Int32} (h : MC M c so cn de mc) (hc : c < 64) (hm : MD M md) (f : (Nat → Int32) → (Nat → Int32) → (Nat → Int32) → Int32 → Int32 → Int32 → Int32 → Option Int32) (v2 v3 : Int32) {a b : Nat} (ha : a < 4) (hb : b < 4) (n : Nat) : f_Mo_faultOf_15 f (n + 1) mo mc md (nI c) v2 v3 (nI a) (nI b) = if pcl M a b = true then some (nI 1) else f_Mo_faultOf_15 f n mo mc md (nI c) v2 v3 (nI a) (nI (b + 1)) := by
  rw [f_Mo_faultOf_15]
  unfold f_Mo_faultOf_55 pcl
  have h1 := hm a ha
  have h2 := hm b hb
  rcases hp : M a with _ | p
  · rw [hp] at h1
    simp (disch := omega) only [lI, nI_add, pk_mul, nI_leI, nI_ltI, nI_eq, ck_n, nm_n, nI_clamp, Option.bind_some, if_pos, if_neg, bk_n0, bk_n1, nI_sub, upd_s, mi_e, mi_ne, mi_ne2, mi_lt, mi_le, mi_nle, mi_nlt, mi_s, bt_shrE, bit_e, true_and, and_true, if_true, if_false, ne_eq, not_true_eq_false, not_false_eq_true, Bool.false_eq_true, Bool.true_eq_false, reduceCtorEq, h1, b2i_0, Option.isSome_none]
  · rw [hp] at h1
    rcases hq : M b with _ | q
    · rw [hq] at h2
      simp (disch := omega) only [lI, nI_add, pk_mul, nI_leI, nI_ltI, nI_eq, ck_n, nm_n, nI_clamp, Option.bind_some, if_pos, if_neg, bk_n0, bk_n1, nI_sub, upd_s, mi_e, mi_ne, mi_ne2, mi_lt, mi_le, mi_nle, mi_nlt, mi_s, bt_shrE, bit_e, true_and, and_true, if_true, if_false, ne_eq, not_true_eq_false, not_false_eq_true, Bool.false_eq_true, Bool.true_eq_false, reduceCtorEq, h1, h2, b2i_0, Option.isSome_none, Option.isSome_some]
    · rw [hq] at h2
      simp (disch := omega) only [lI, nI_add, pk_mul, nI_leI, nI_ltI, nI_eq, ck_n, nm_n, nI_clamp, Option.bind_some, if_pos, if_neg, bk_n0, bk_n1, nI_sub, upd_s, mi_e, mi_ne, mi_ne2, mi_lt, mi_le, mi_nle, mi_nlt, mi_s, bt_shrE, bit_e, true_and, and_true, if_true, if_false, ne_eq, not_true_eq_false, not_false_eq_true, Bool.false_eq_true, Bool.true_eq_false, reduceCtorEq, h1, h2, b2i_0, Option.isSome_none, Option.isSome_some, isClash_n h hc ha hb hp hq]
      by_cases ht : (TG p.2.2 == TG q.2.2) = true
      · simp (disch := omega) only [lI, nI_add, pk_mul, nI_leI, nI_ltI, nI_eq, ck_n, nm_n, nI_clamp, Option.bind_some, if_pos, if_neg, bk_n0, bk_n1, nI_sub, upd_s, mi_e, mi_ne, mi_ne2, mi_lt, mi_le, mi_nle, mi_nlt, mi_s, bt_shrE, bit_e, true_and, and_true, if_true, if_false, ne_eq, not_true_eq_false, not_false_eq_true, Bool.false_eq_true, Bool.true_eq_false, reduceCtorEq, ht]
      · have hf : (TG p.2.2 == TG q.2.2) = false := by simpa using ht
        simp (disch := omega) only [lI, nI_add, pk_mul, nI_leI, nI_ltI, nI_eq, ck_n, nm_n, nI_clamp, Option.bind_some, if_pos, if_neg, bk_n0, bk_n1, nI_sub, upd_s, mi_e, mi_ne, mi_ne2, mi_lt, mi_le, mi_nle, mi_nlt, mi_s, bt_shrE, bit_e, true_and, and_true, if_true, if_false, ne_eq, not_true_eq_false, not_false_eq_true, Bool.false_eq_true, Bool.true_eq_false, reduceCtorEq, hf]
theorem fault15_e (mo mc md : Nat → Int32) (f : (Nat → Int32) → (Nat → Int32) → (Nat → Int32) → Int32 → Int32 → Int32 → Int32 → Option Int32) (v1 v2 v3 : Int32) (a : Nat) (n : Nat) : f_Mo_faultOf_15 f (n + 1) mo mc md v1 v2 v3 (nI a) (nI 4) = f mo mc md v1 v2 v3 (nI (a + 1)) := by
  rw [f_Mo_faultOf_15]; simp (disch := omega) only [lI, nI_add, pk_mul, nI_leI, nI_ltI, nI_eq, ck_n, nm_n, nI_clamp, Option.bind_some, if_pos, if_neg, bk_n0, bk_n1, nI_sub, upd_s, mi_e, mi_ne, mi_ne2, mi_lt, mi_le, mi_nle, mi_nlt, mi_s, bt_shrE, bit_e, true_and, and_true, if_true, if_false, ne_eq, not_true_eq_false, not_false_eq_true, Bool.false_eq_true, Bool.true_eq_false, reduceCtorEq]
theorem fault3_s (mo mc md : Nat → Int32) (v1 v2 v3 : Int32) {a : Nat} (ha : a < 4) (n : Nat) : f_Mo_faultOf_3 (n + 1) mo mc md v1 v2 v3 (nI a) = f_Mo_faultOf_15 (f_Mo_faultOf_3 n) 5000 mo mc md v1 v2 v3 (nI a) (nI (a + 1)) := by
  rw [f_Mo_faultOf_3]; simp (disch := omega) only [lI, nI_add, pk_mul, nI_leI, nI_ltI, nI_eq, ck_n, nm_n, nI_clamp, Option.bind_some, if_pos, if_neg, bk_n0, bk_n1, nI_sub, upd_s, mi_e, mi_ne, mi_ne2, mi_lt, mi_le, mi_nle, mi_nlt, mi_s, bt_shrE, bit_e, true_and, and_true, if_true, if_false, ne_eq, not_true_eq_false, not_false_eq_true, Bool.false_eq_true, Bool.true_eq_false, reduceCtorEq]
theorem mfault_n {M : MT} {c : Nat} {so cn de mo mc md : Nat → Int32} (h : MC M c so cn de mc) (hc : c < 64) (hm : MD M md) (x : Int32) (j : Bool) : f_Mo_faultOf mo mc md (nI c) x (b2i j) = some (nI (FTb M (bt x) j)) := by
  have s3 : ∀ n, f_Mo_faultOf_15 (f_Mo_faultOf_3 n) 5000 mo mc md (nI c) x (b2i j) (nI 3) (nI 4) = f_Mo_faultOf_3 n mo mc md (nI c) x (b2i j) (nI 4) := fun n => fault15_e mo mc md _ _ _ _ 3 4999
  have s2 : ∀ n, f_Mo_faultOf_15 (f_Mo_faultOf_3 n) 5000 mo mc md (nI c) x (b2i j) (nI 2) (nI 3) = if pcl M 2 3 = true then some (nI 1) else f_Mo_faultOf_3 n mo mc md (nI c) x (b2i j) (nI 3) := fun n => by
    rw [show (5000 : Nat) = 4998 + 1 + 1 from rfl, fault15_s h hc hm _ _ _ (by omega) (by omega), fault15_e]
  have s1 : ∀ n, f_Mo_faultOf_15 (f_Mo_faultOf_3 n) 5000 mo mc md (nI c) x (b2i j) (nI 1) (nI 2) = if pcl M 1 2 = true then some (nI 1) else if pcl M 1 3 = true then some (nI 1) else f_Mo_faultOf_3 n mo mc md (nI c) x (b2i j) (nI 2) := fun n => by
    rw [show (5000 : Nat) = 4997 + 1 + 1 + 1 from rfl, fault15_s h hc hm _ _ _ (by omega) (by omega), fault15_s h hc hm _ _ _ (by omega) (by omega), fault15_e]
  have s0 : ∀ n, f_Mo_faultOf_15 (f_Mo_faultOf_3 n) 5000 mo mc md (nI c) x (b2i j) (nI 0) (nI 1) = if pcl M 0 1 = true then some (nI 1) else if pcl M 0 2 = true then some (nI 1) else if pcl M 0 3 = true then some (nI 1) else f_Mo_faultOf_3 n mo mc md (nI c) x (b2i j) (nI 1) := fun n => by
    rw [show (5000 : Nat) = 4996 + 1 + 1 + 1 + 1 from rfl, fault15_s h hc hm _ _ _ (by omega) (by omega), fault15_s h hc hm _ _ _ (by omega) (by omega), fault15_s h hc hm _ _ _ (by omega) (by omega), fault15_e]
  have tail : ∀ n, f_Mo_faultOf_3 (n + 1) mo mc md (nI c) x (b2i j) (nI 4) = some (nI (if noRes M (bt x) = true then 2 else if (j && anyM (fun q => q.2.2 == 24) M 4) = true then 3 else if much M = true then 4 else 0)) := fun n => by
    rw [f_Mo_faultOf_3]
    unfold f_Mo_faultOf_94
    simp (disch := omega) only [lI, nI_add, pk_mul, nI_leI, nI_ltI, nI_eq, ck_n, nm_n, nI_clamp, Option.bind_some, if_pos, if_neg, bk_n0, bk_n1, nI_sub, upd_s, mi_e, mi_ne, mi_ne2, mi_lt, mi_le, mi_nle, mi_nlt, mi_s, bt_shrE, bit_e, true_and, and_true, if_true, if_false, ne_eq, not_true_eq_false, not_false_eq_true, Bool.false_eq_true, Bool.true_eq_false, reduceCtorEq, reads_n h hc hm, b2i_0, isMade_n h hc hm, much_n h hc hm]
    cases noRes M (bt x)
    · cases j
      · cases much M
        · simp (disch := omega) only [lI, nI_add, pk_mul, nI_leI, nI_ltI, nI_eq, ck_n, nm_n, nI_clamp, Option.bind_some, if_pos, if_neg, bk_n0, bk_n1, nI_sub, upd_s, mi_e, mi_ne, mi_ne2, mi_lt, mi_le, mi_nle, mi_nlt, mi_s, bt_shrE, bit_e, true_and, and_true, if_true, if_false, ne_eq, not_true_eq_false, not_false_eq_true, Bool.false_eq_true, Bool.true_eq_false, reduceCtorEq, Bool.false_and]
        · simp (disch := omega) only [lI, nI_add, pk_mul, nI_leI, nI_ltI, nI_eq, ck_n, nm_n, nI_clamp, Option.bind_some, if_pos, if_neg, bk_n0, bk_n1, nI_sub, upd_s, mi_e, mi_ne, mi_ne2, mi_lt, mi_le, mi_nle, mi_nlt, mi_s, bt_shrE, bit_e, true_and, and_true, if_true, if_false, ne_eq, not_true_eq_false, not_false_eq_true, Bool.false_eq_true, Bool.true_eq_false, reduceCtorEq, Bool.false_and]
      · cases anyM (fun q => q.2.2 == 24) M 4
        · cases much M
          · simp (disch := omega) only [lI, nI_add, pk_mul, nI_leI, nI_ltI, nI_eq, ck_n, nm_n, nI_clamp, Option.bind_some, if_pos, if_neg, bk_n0, bk_n1, nI_sub, upd_s, mi_e, mi_ne, mi_ne2, mi_lt, mi_le, mi_nle, mi_nlt, mi_s, bt_shrE, bit_e, true_and, and_true, if_true, if_false, ne_eq, not_true_eq_false, not_false_eq_true, Bool.false_eq_true, Bool.true_eq_false, reduceCtorEq, Bool.true_and]
          · simp (disch := omega) only [lI, nI_add, pk_mul, nI_leI, nI_ltI, nI_eq, ck_n, nm_n, nI_clamp, Option.bind_some, if_pos, if_neg, bk_n0, bk_n1, nI_sub, upd_s, mi_e, mi_ne, mi_ne2, mi_lt, mi_le, mi_nle, mi_nlt, mi_s, bt_shrE, bit_e, true_and, and_true, if_true, if_false, ne_eq, not_true_eq_false, not_false_eq_true, Bool.false_eq_true, Bool.true_eq_false, reduceCtorEq, Bool.true_and]
        · simp (disch := omega) only [lI, nI_add, pk_mul, nI_leI, nI_ltI, nI_eq, ck_n, nm_n, nI_clamp, Option.bind_some, if_pos, if_neg, bk_n0, bk_n1, nI_sub, upd_s, mi_e, mi_ne, mi_ne2, mi_lt, mi_le, mi_nle, mi_nlt, mi_s, bt_shrE, bit_e, true_and, and_true, if_true, if_false, ne_eq, not_true_eq_false, not_false_eq_true, Bool.false_eq_true, Bool.true_eq_false, reduceCtorEq, Bool.true_and]
    · simp (disch := omega) only [lI, nI_add, pk_mul, nI_leI, nI_ltI, nI_eq, ck_n, nm_n, nI_clamp, Option.bind_some, if_pos, if_neg, bk_n0, bk_n1, nI_sub, upd_s, mi_e, mi_ne, mi_ne2, mi_lt, mi_le, mi_nle, mi_nlt, mi_s, bt_shrE, bit_e, true_and, and_true, if_true, if_false, ne_eq, not_true_eq_false, not_false_eq_true, Bool.false_eq_true, Bool.true_eq_false, reduceCtorEq]
  show f_Mo_faultOf_3 (4995 + 1 + 1 + 1 + 1 + 1) mo mc md (nI c) x (b2i j) (nI 0) = _
  rw [fault3_s _ _ _ _ _ _ (by omega), s0, fault3_s _ _ _ _ _ _ (by omega), s1, fault3_s _ _ _ _ _ _ (by omega), s2, fault3_s _ _ _ _ _ _ (by omega), s3, tail]
  unfold FTb
  rw [clash_p]
  cases pcl M 0 1 <;> cases pcl M 0 2 <;> cases pcl M 0 3 <;> cases pcl M 1 2 <;> cases pcl M 1 3 <;> cases pcl M 2 3 <;> rfl
