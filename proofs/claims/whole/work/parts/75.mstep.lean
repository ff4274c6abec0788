-- ===== the reference's states =====
def lf (L : Nat → Nat) (u a : Nat) : Nat := if ag u a = 0 then 0 else L u - ag u a
def B3 (x y z : Bool) : Nat := (if x = true then 1 else 0) + (if y = true then 2 else 0) + (if z = true then 4 else 0)
def hb (L : Nat → Nat) (a : Nat) : Nat := B3 (hd L a 0) (hd L a 1) (hd L a 2)
def jm (cn : Nat → Int32) (c j : Nat) : Nat := if j = 0 then 0 else if j ≤ 4 then 65 + tq cn ((c + 63) % 64) (j - 1) else 1 + tq cn ((c + 62) % 64) (j - 5)
def phi (cn : Nat → Int32) (L : Nat → Nat) (c j a : Nat) : Nat := (((c * 129 + jm cn c j) * 8 + hb L a) * 4 + lf L 1 a) * 3 + lf L 2 a
theorem B3_lt (x y z : Bool) : B3 x y z < 8 := by cases x <;> cases y <;> cases z <;> decide
theorem B3_bt (x y z : Bool) : bt (nI (B3 x y z)) 0 = x ∧ bt (nI (B3 x y z)) 1 = y ∧ bt (nI (B3 x y z)) 2 = z := by cases x <;> cases y <;> cases z <;> decide +kernel
theorem B3_or : ∀ x y z x' y' z' : Bool, ((nI (B3 x y z) ||| (if x' = true then (1 : Int32) else 0)) ||| (if y' = true then (2 : Int32) else 0)) ||| (if z' = true then (4 : Int32) else 0) = nI (B3 (x || x') (y || y') (z || z')) := by decide +kernel
theorem B3_and : ∀ x y z : Bool, (nI (B3 x y z) &&& (2 : Int32) ≤ 0 ↔ y = false) ∧ (nI (B3 x y z) &&& (4 : Int32) ≤ 0 ↔ z = false) := by decide +kernel
theorem jm_le (cn : Nat → Int32) (c j : Nat) : jm cn c j ≤ 128 := by
  unfold jm
  have := (tq_n cn ((c + 63) % 64) (j - 1)).2
  have := (tq_n cn ((c + 62) % 64) (j - 5)).2
  split
  · omega
  · split <;> omega
theorem lf_le {L : Nat → Nat} (hL : LJ L) {a : Nat} (h : VA L a) : lf L 1 a ≤ 3 ∧ lf L 2 a ≤ 2 ∧ lf L 0 a = 0 := by
  obtain ⟨l0, l1, l2, l3, l4⟩ := hL
  obtain ⟨h1, h2, h3, h4⟩ := h
  unfold lf
  refine ⟨?_, ?_, ?_⟩
  · split <;> omega
  · split <;> omega
  · split <;> omega
theorem phi_lt {cn : Nat → Int32} {L : Nat → Nat} (hL : LJ L) {c j a : Nat} (hc : c < 64) (h : VA L a) : phi cn L c j a < 792576 := by
  have h1 := jm_le cn c j
  have h2 : hb L a < 8 := B3_lt _ _ _
  obtain ⟨h3, h4, _⟩ := lf_le hL h
  unfold phi
  omega
theorem phi_un {cn : Nat → Int32} {L : Nat → Nat} (hL : LJ L) {c j a : Nat} (h : VA L a) : phi cn L c j a % 3 = lf L 2 a ∧ phi cn L c j a / 3 % 4 = lf L 1 a ∧ phi cn L c j a / 12 % 8 = hb L a ∧ phi cn L c j a / 96 % 129 = jm cn c j ∧ phi cn L c j a / 96 / 129 = c := by
  have h1 := jm_le cn c j
  have h2 : hb L a < 8 := B3_lt _ _ _
  obtain ⟨h3, h4, _⟩ := lf_le hL h
  unfold phi
  generalize jm cn c j = J at *
  generalize hb L a = H at *
  generalize lf L 1 a = o at *
  generalize lf L 2 a = w at *
  refine ⟨by omega, by omega, by omega, by omega, by omega⟩
/-- the results that come, as the reference counts them -/
def cmb (l left : Nat) (b : Bool) : Bool := decide (left = 1) || (decide (left = 0) && decide (l = 1) && b)
def ahn (l left : Nat) (b h : Bool) : Nat := if h = true then 0 else if left ≤ 1 then (if left = 0 then (if b = true then l - 1 else 0) else 0) else left - 1
theorem age_k : ∀ l, l < 5 → ∀ x, x < 5 → ∀ b : Bool, 1 ≤ l → x ≤ l → (decide (nag l b x = l) = (decide (x = l) || cmb l (if x = 0 then 0 else l - x) b)) ∧ (if nag l b x = 0 then 0 else l - nag l b x) = ahn l (if x = 0 then 0 else l - x) b (decide (nag l b x = l)) := by decide +kernel
theorem L_rng {L : Nat → Nat} (hL : LJ L) {u : Nat} (hu : u < 3) : 1 ≤ L u ∧ L u < 5 := by
  obtain ⟨l0, l1, l2, l3, l4⟩ := hL
  rcases ag_u hu with rfl | rfl | rfl <;> omega
theorem VA_u {L : Nat → Nat} {a : Nat} (h : VA L a) {u : Nat} (hu : u < 3) : ag u a ≤ L u := by
  obtain ⟨_, h2, h3, h4⟩ := h
  rcases ag_u hu with rfl | rfl | rfl <;> assumption
theorem old_hd {L : Nat → Nat} (hL : LJ L) {M : MT} {a : Nat} (h : VA L a) {u : Nat} (hu : u < 3) : hd L (old L M a) u = (hd L a u || cmb (L u) (lf L u a) (bgM M u)) ∧ lf L u (old L M a) = ahn (L u) (lf L u a) (bgM M u) (hd L (old L M a) u) := by
  obtain ⟨r1, r2⟩ := L_rng hL hu
  have r3 := VA_u h hu
  obtain ⟨q1, q2⟩ := age_k (L u) r2 (ag u a) (by omega) (bgM M u) r1 r3
  have e := (old_ag (M := M) hL h).2 u hu
  have e1 : hd L (old L M a) u = decide (nag (L u) (bgM M u) (ag u a) = L u) := by unfold hd; rw [e]
  refine ⟨?_, ?_⟩
  · rw [e1]; exact q1
  · rw [e1]
    unfold lf
    rw [e]; exact q2
theorem bgM_0 (M : MT) : bgM M 0 = (anyM (fun q => q.2.2 == 11) M 4 || anyM (fun q => q.2.2 == 12) M 4) := by
  apply Bool.eq_iff_iff.mpr
  unfold bgM
  rw [Bool.or_eq_true, anyM_iff, anyM_iff, anyM_iff]
  constructor
  · rintro ⟨b, q, h1, h2, h3⟩
    simp only [bgn, beq_self_eq_true, Bool.true_and, Bool.or_eq_true, Bool.and_eq_true, beq_iff_eq] at h3
    rcases h3 with ((h3 | h3) | h3) | h3
    · exact Or.inl ⟨b, q, h1, h2, by simp [h3]⟩
    · exact Or.inr ⟨b, q, h1, h2, by simp [h3]⟩
    · omega
    · omega
  · rintro (⟨b, q, h1, h2, h3⟩ | ⟨b, q, h1, h2, h3⟩)
    · refine ⟨b, q, h1, h2, ?_⟩
      simp only [beq_iff_eq] at h3
      simp [bgn, h3]
    · refine ⟨b, q, h1, h2, ?_⟩
      simp only [beq_iff_eq] at h3
      simp [bgn, h3]
theorem bgM_u (M : MT) {u : Nat} (h : u = 1 ∨ u = 2) : bgM M u = anyM (fun q => q.2.2 == 12 + u) M 4 := by
  unfold bgM
  congr 1
  funext q
  rcases h with rfl | rfl <;> simp [bgn]
theorem comes_n {M : MT} {c : Nat} {L : Nat → Nat} {so cn de mo lat mlat mc md : Nat → Int32} (h : MC M c so cn de mc) (hc : c < 64) (hm : MD M md) (hL : LL L lat mlat) {u left : Nat} (hu : u < 3) (hl : left < 100) : f_Mo_comes mo mlat mc md (nI c) (nI u) (nI left) = some (b2i (cmb (L u) left (bgM M u))) := by
  obtain ⟨_, l2, l3, l4⟩ := hL u hu
  unfold f_Mo_comes f_Mo_comes_58 cmb
  by_cases h1 : left = 1
  · subst h1
    simp (disch := omega) only [lI, nI_add, pk_mul, nI_leI, nI_ltI, nI_eq, ck_n, nm_n, nI_clamp, Option.bind_some, if_pos, if_neg, bk_n0, bk_n1, nI_sub, upd_s, mi_e, mi_ne, mi_ne2, mi_lt, mi_le, mi_nle, mi_nlt, mi_s, bt_shrE, bit_e, true_and, and_true, if_true, if_false, ne_eq, not_true_eq_false, not_false_eq_true, Bool.false_eq_true, Bool.true_eq_false, reduceCtorEq]
    rfl
  · by_cases h0 : left = 0
    · subst h0
      by_cases hl1 : L u = 1
      · have d1 : decide (0 = 1) = false := by decide
        by_cases hu0 : u = 0
        · subst hu0
          rw [bgM_0]
          simp (disch := omega) only [lI, nI_add, pk_mul, nI_leI, nI_ltI, nI_eq, ck_n, nm_n, nI_clamp, Option.bind_some, if_pos, if_neg, bk_n0, bk_n1, nI_sub, upd_s, mi_e, mi_ne, mi_ne2, mi_lt, mi_le, mi_nle, mi_nlt, mi_s, bt_shrE, bit_e, true_and, and_true, if_true, if_false, ne_eq, not_true_eq_false, not_false_eq_true, Bool.false_eq_true, Bool.true_eq_false, reduceCtorEq, l2, hl1]
          rw [isMade_n h hc hm (show 11 < 100 by omega), isMade_n h hc hm (show 12 < 100 by omega)]
          cases z1 : anyM (fun q => q.2.2 == 11) M 4 <;> cases z2 : anyM (fun q => q.2.2 == 12) M 4 <;> simp (disch := omega) only [lI, nI_add, pk_mul, nI_leI, nI_ltI, nI_eq, ck_n, nm_n, nI_clamp, Option.bind_some, if_pos, if_neg, bk_n0, bk_n1, nI_sub, upd_s, mi_e, mi_ne, mi_ne2, mi_lt, mi_le, mi_nle, mi_nlt, mi_s, bt_shrE, bit_e, true_and, and_true, if_true, if_false, ne_eq, not_true_eq_false, not_false_eq_true, Bool.false_eq_true, Bool.true_eq_false, reduceCtorEq, b2i_0] <;> rfl
        · rw [bgM_u M (by omega)]
          simp (disch := omega) only [lI, nI_add, pk_mul, nI_leI, nI_ltI, nI_eq, ck_n, nm_n, nI_clamp, Option.bind_some, if_pos, if_neg, bk_n0, bk_n1, nI_sub, upd_s, mi_e, mi_ne, mi_ne2, mi_lt, mi_le, mi_nle, mi_nlt, mi_s, bt_shrE, bit_e, true_and, and_true, if_true, if_false, ne_eq, not_true_eq_false, not_false_eq_true, Bool.false_eq_true, Bool.true_eq_false, reduceCtorEq, l2, hl1]
          rw [isMade_n h hc hm (show 12 + u < 100 by omega)]
          cases z1 : anyM (fun q => q.2.2 == 12 + u) M 4 <;> simp (disch := omega) only [lI, nI_add, pk_mul, nI_leI, nI_ltI, nI_eq, ck_n, nm_n, nI_clamp, Option.bind_some, if_pos, if_neg, bk_n0, bk_n1, nI_sub, upd_s, mi_e, mi_ne, mi_ne2, mi_lt, mi_le, mi_nle, mi_nlt, mi_s, bt_shrE, bit_e, true_and, and_true, if_true, if_false, ne_eq, not_true_eq_false, not_false_eq_true, Bool.false_eq_true, Bool.true_eq_false, reduceCtorEq, b2i_0] <;> rfl
      · simp (disch := omega) only [lI, nI_add, pk_mul, nI_leI, nI_ltI, nI_eq, ck_n, nm_n, nI_clamp, Option.bind_some, if_pos, if_neg, bk_n0, bk_n1, nI_sub, upd_s, mi_e, mi_ne, mi_ne2, mi_lt, mi_le, mi_nle, mi_nlt, mi_s, bt_shrE, bit_e, true_and, and_true, if_true, if_false, ne_eq, not_true_eq_false, not_false_eq_true, Bool.false_eq_true, Bool.true_eq_false, reduceCtorEq, l2, hl1]
        simp [hl1, b2i]
    · simp (disch := omega) only [lI, nI_add, pk_mul, nI_leI, nI_ltI, nI_eq, ck_n, nm_n, nI_clamp, Option.bind_some, if_pos, if_neg, bk_n0, bk_n1, nI_sub, upd_s, mi_e, mi_ne, mi_ne2, mi_lt, mi_le, mi_nle, mi_nlt, mi_s, bt_shrE, bit_e, true_and, and_true, if_true, if_false, ne_eq, not_true_eq_false, not_false_eq_true, Bool.false_eq_true, Bool.true_eq_false, reduceCtorEq]
      simp [h1, h0, b2i]
theorem ahead24_n {L : Nat → Nat} {mo lat mlat mc md : Nat → Int32} (hL : LL L lat mlat) {u left : Nat} (hu : u < 3) (hl : left < 100) (b h : Bool) : f_Mo_ahead_24 mo mlat mc md (nI u) (nI left) (b2i h) (b2i b) = some (nI (ahn (L u) left b h)) := by
  obtain ⟨_, l2, l3, l4⟩ := hL u hu
  unfold f_Mo_ahead_24 f_Mo_ahead_43 f_Mo_ahead_56 ahn
  cases h
  · by_cases h0 : left = 0
    · subst h0
      cases b
      · simp (disch := omega) only [lI, nI_add, pk_mul, nI_leI, nI_ltI, nI_eq, ck_n, nm_n, nI_clamp, Option.bind_some, if_pos, if_neg, bk_n0, bk_n1, nI_sub, upd_s, mi_e, mi_ne, mi_ne2, mi_lt, mi_le, mi_nle, mi_nlt, mi_s, bt_shrE, bit_e, true_and, and_true, if_true, if_false, ne_eq, not_true_eq_false, not_false_eq_true, Bool.false_eq_true, Bool.true_eq_false, reduceCtorEq, b2i_0, l2]
      · simp (disch := omega) only [lI, nI_add, pk_mul, nI_leI, nI_ltI, nI_eq, ck_n, nm_n, nI_clamp, Option.bind_some, if_pos, if_neg, bk_n0, bk_n1, nI_sub, upd_s, mi_e, mi_ne, mi_ne2, mi_lt, mi_le, mi_nle, mi_nlt, mi_s, bt_shrE, bit_e, true_and, and_true, if_true, if_false, ne_eq, not_true_eq_false, not_false_eq_true, Bool.false_eq_true, Bool.true_eq_false, reduceCtorEq, b2i_0, l2]
    · by_cases h1 : left = 1
      · subst h1
        cases b
        · simp (disch := omega) only [lI, nI_add, pk_mul, nI_leI, nI_ltI, nI_eq, ck_n, nm_n, nI_clamp, Option.bind_some, if_pos, if_neg, bk_n0, bk_n1, nI_sub, upd_s, mi_e, mi_ne, mi_ne2, mi_lt, mi_le, mi_nle, mi_nlt, mi_s, bt_shrE, bit_e, true_and, and_true, if_true, if_false, ne_eq, not_true_eq_false, not_false_eq_true, Bool.false_eq_true, Bool.true_eq_false, reduceCtorEq, b2i_0, l2]
        · simp (disch := omega) only [lI, nI_add, pk_mul, nI_leI, nI_ltI, nI_eq, ck_n, nm_n, nI_clamp, Option.bind_some, if_pos, if_neg, bk_n0, bk_n1, nI_sub, upd_s, mi_e, mi_ne, mi_ne2, mi_lt, mi_le, mi_nle, mi_nlt, mi_s, bt_shrE, bit_e, true_and, and_true, if_true, if_false, ne_eq, not_true_eq_false, not_false_eq_true, Bool.false_eq_true, Bool.true_eq_false, reduceCtorEq, b2i_0, l2]
      · have : ¬ left ≤ 1 := by omega
        cases b
        · simp (disch := omega) only [lI, nI_add, pk_mul, nI_leI, nI_ltI, nI_eq, ck_n, nm_n, nI_clamp, Option.bind_some, if_pos, if_neg, bk_n0, bk_n1, nI_sub, upd_s, mi_e, mi_ne, mi_ne2, mi_lt, mi_le, mi_nle, mi_nlt, mi_s, bt_shrE, bit_e, true_and, and_true, if_true, if_false, ne_eq, not_true_eq_false, not_false_eq_true, Bool.false_eq_true, Bool.true_eq_false, reduceCtorEq, b2i_0, l2]
        · simp (disch := omega) only [lI, nI_add, pk_mul, nI_leI, nI_ltI, nI_eq, ck_n, nm_n, nI_clamp, Option.bind_some, if_pos, if_neg, bk_n0, bk_n1, nI_sub, upd_s, mi_e, mi_ne, mi_ne2, mi_lt, mi_le, mi_nle, mi_nlt, mi_s, bt_shrE, bit_e, true_and, and_true, if_true, if_false, ne_eq, not_true_eq_false, not_false_eq_true, Bool.false_eq_true, Bool.true_eq_false, reduceCtorEq, b2i_0, l2]
  · by_cases h0 : left = 0
    · subst h0
      cases b
      · simp (disch := omega) only [lI, nI_add, pk_mul, nI_leI, nI_ltI, nI_eq, ck_n, nm_n, nI_clamp, Option.bind_some, if_pos, if_neg, bk_n0, bk_n1, nI_sub, upd_s, mi_e, mi_ne, mi_ne2, mi_lt, mi_le, mi_nle, mi_nlt, mi_s, bt_shrE, bit_e, true_and, and_true, if_true, if_false, ne_eq, not_true_eq_false, not_false_eq_true, Bool.false_eq_true, Bool.true_eq_false, reduceCtorEq, b2i_0, l2]
      · simp (disch := omega) only [lI, nI_add, pk_mul, nI_leI, nI_ltI, nI_eq, ck_n, nm_n, nI_clamp, Option.bind_some, if_pos, if_neg, bk_n0, bk_n1, nI_sub, upd_s, mi_e, mi_ne, mi_ne2, mi_lt, mi_le, mi_nle, mi_nlt, mi_s, bt_shrE, bit_e, true_and, and_true, if_true, if_false, ne_eq, not_true_eq_false, not_false_eq_true, Bool.false_eq_true, Bool.true_eq_false, reduceCtorEq, b2i_0, l2]
    · cases b
      · simp (disch := omega) only [lI, nI_add, pk_mul, nI_leI, nI_ltI, nI_eq, ck_n, nm_n, nI_clamp, Option.bind_some, if_pos, if_neg, bk_n0, bk_n1, nI_sub, upd_s, mi_e, mi_ne, mi_ne2, mi_lt, mi_le, mi_nle, mi_nlt, mi_s, bt_shrE, bit_e, true_and, and_true, if_true, if_false, ne_eq, not_true_eq_false, not_false_eq_true, Bool.false_eq_true, Bool.true_eq_false, reduceCtorEq, b2i_0, l2]
      · simp (disch := omega) only [lI, nI_add, pk_mul, nI_leI, nI_ltI, nI_eq, ck_n, nm_n, nI_clamp, Option.bind_some, if_pos, if_neg, bk_n0, bk_n1, nI_sub, upd_s, mi_e, mi_ne, mi_ne2, mi_lt, mi_le, mi_nle, mi_nlt, mi_s, bt_shrE, bit_e, true_and, and_true, if_true, if_false, ne_eq, not_true_eq_false, not_false_eq_true, Bool.false_eq_true, Bool.true_eq_false, reduceCtorEq, b2i_0, l2]
theorem ahead_n {M : MT} {c : Nat} {L : Nat → Nat} {so cn de mo lat mlat mc md : Nat → Int32} (h : MC M c so cn de mc) (hc : c < 64) (hm : MD M md) (hL : LL L lat mlat) {u left : Nat} (hu : u = 1 ∨ u = 2) (hl : left < 100) (hh : Bool) : f_Mo_ahead mo mlat mc md (nI c) (nI u) (nI left) (b2i hh) = some (nI (ahn (L u) left (bgM M u) hh)) := by
  have e := ahead24_n (mo := mo) (mc := mc) (md := md) hL (show u < 3 by omega) hl (bgM M u) hh
  rw [← e, bgM_u M hu]
  unfold f_Mo_ahead
  have i1 := isMade_n (mo := mo) h hc hm (show 13 < 100 by omega)
  have i2 := isMade_n (mo := mo) h hc hm (show 14 < 100 by omega)
  rcases hu with rfl | rfl
  · rw [if_pos (show nI 1 = (1 : Int32) from rfl), show (13 : Int32) = nI 13 from rfl, i1, Option.bind_some]
  · rw [if_neg (show ¬ nI 2 = (1 : Int32) by decide), show (14 : Int32) = nI 14 from rfl, i2, Option.bind_some]
