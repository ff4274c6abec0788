-- ===== the states of a judged run =====
def ag (u a : Nat) : Nat := if u = 0 then a % 2 else if u = 1 then a / 2 % 5 else a / 10 % 4
def sg (u : Nat) : Nat := if u = 0 then 1 else if u = 1 then 2 else 10
def LJ (L : Nat → Nat) : Prop := L 0 = 1 ∧ 1 ≤ L 1 ∧ L 1 ≤ 4 ∧ 1 ≤ L 2 ∧ L 2 ≤ 3
def VA (L : Nat → Nat) (a : Nat) : Prop := a < 40 ∧ ag 0 a ≤ L 0 ∧ ag 1 a ≤ L 1 ∧ ag 2 a ≤ L 2
def hd (L : Nat → Nat) (a u : Nat) : Bool := decide (ag u a = L u)
def bgM (M : MT) (u : Nat) : Bool := anyM (fun q => bgn q.2.2 u) M 4
def kp (L : Nat → Nat) (M : MT) (u a : Nat) : Bool := decide (ag u a = L u) || (decide (ag u a = 0) && !bgM M u)
def adv (L : Nat → Nat) (M : MT) (u a : Nat) : Nat := if kp L M u a = true then a else a + sg u
def old (L : Nat → Nat) (M : MT) (a : Nat) : Nat := adv L M 2 (adv L M 1 (adv L M 0 a))
/-- an age after the cycle -/
def nag (l : Nat) (b : Bool) (x : Nat) : Nat := if x = l then x else if x = 0 ∧ b = false then 0 else x + 1
theorem ag_u {u : Nat} (hu : u < 3) : u = 0 ∨ u = 1 ∨ u = 2 := by omega
theorem adv_ag {L : Nat → Nat} (hL : LJ L) {M : MT} {u a : Nat} (hu : u < 3) (h : VA L a) : VA L (adv L M u a) ∧ ag u (adv L M u a) = nag (L u) (bgM M u) (ag u a) ∧ ∀ v, v < 3 → v ≠ u → ag v (adv L M u a) = ag v a := by
  obtain ⟨l0, l1, l2, l3, l4⟩ := hL
  obtain ⟨h1, h2, h3, h4⟩ := h
  have hk : kp L M u a = true ↔ (ag u a = L u ∨ (ag u a = 0 ∧ bgM M u = false)) := by
    unfold kp; simp
  unfold adv nag
  by_cases e : kp L M u a = true
  · rw [if_pos e]
    refine ⟨⟨h1, h2, h3, h4⟩, ?_, fun v _ _ => rfl⟩
    rcases hk.mp e with q | ⟨q, r⟩
    · rw [if_pos q]
    · by_cases z : ag u a = L u
      · rw [if_pos z]
      · rw [if_neg z, if_pos ⟨q, r⟩]; exact q
  · rw [if_neg e]
    have n1 : ag u a ≠ L u := fun q => e (hk.mpr (Or.inl q))
    have n2 : ¬ (ag u a = 0 ∧ bgM M u = false) := fun q => e (hk.mpr (Or.inr q))
    rw [if_neg n1, if_neg n2]
    rcases ag_u hu with rfl | rfl | rfl
    · have e0 : ag 0 a = a % 2 := rfl
      have e1 : ∀ x, ag 1 x = x / 2 % 5 := fun _ => rfl
      have e2 : ∀ x, ag 2 x = x / 10 % 4 := fun _ => rfl
      have e3 : ag 0 (a + sg 0) = (a + 1) % 2 := rfl
      have e4 : sg 0 = 1 := rfl
      rw [e0] at h2 n1
      rw [e1] at h3
      rw [e2] at h4
      refine ⟨⟨?_, ?_, ?_, ?_⟩, ?_, fun v hv hvu => ?_⟩
      · omega
      · rw [e3]; omega
      · rw [e1]; omega
      · rw [e2]; omega
      · rw [e3, e0]; omega
      · rcases (show v = 1 ∨ v = 2 by omega) with rfl | rfl
        · rw [e1, e1]; omega
        · rw [e2, e2]; omega
    · have e0 : ∀ x, ag 0 x = x % 2 := fun _ => rfl
      have e1 : ∀ x, ag 1 x = x / 2 % 5 := fun _ => rfl
      have e2 : ∀ x, ag 2 x = x / 10 % 4 := fun _ => rfl
      have e4 : sg 1 = 2 := rfl
      rw [e0] at h2
      rw [e1] at h3 n1
      rw [e2] at h4
      refine ⟨⟨?_, ?_, ?_, ?_⟩, ?_, fun v hv hvu => ?_⟩
      · omega
      · rw [e0]; omega
      · rw [e1]; omega
      · rw [e2]; omega
      · rw [e1, e1]; omega
      · rcases (show v = 0 ∨ v = 2 by omega) with rfl | rfl
        · rw [e0, e0]; omega
        · rw [e2, e2]; omega
    · have e0 : ∀ x, ag 0 x = x % 2 := fun _ => rfl
      have e1 : ∀ x, ag 1 x = x / 2 % 5 := fun _ => rfl
      have e2 : ∀ x, ag 2 x = x / 10 % 4 := fun _ => rfl
      have e4 : sg 2 = 10 := rfl
      rw [e0] at h2
      rw [e1] at h3
      rw [e2] at h4 n1
      refine ⟨⟨?_, ?_, ?_, ?_⟩, ?_, fun v hv hvu => ?_⟩
      · omega
      · rw [e0]; omega
      · rw [e1]; omega
      · rw [e2]; omega
      · rw [e2, e2]; omega
      · rcases (show v = 0 ∨ v = 1 by omega) with rfl | rfl
        · rw [e0, e0]; omega
        · rw [e1, e1]; omega
theorem old_ag {L : Nat → Nat} (hL : LJ L) {M : MT} {a : Nat} (h : VA L a) : VA L (old L M a) ∧ ∀ u, u < 3 → ag u (old L M a) = nag (L u) (bgM M u) (ag u a) := by
  obtain ⟨p1, p2, p3⟩ := adv_ag (M := M) hL (show 0 < 3 by omega) h
  obtain ⟨q1, q2, q3⟩ := adv_ag (M := M) hL (show 1 < 3 by omega) p1
  obtain ⟨r1, r2, r3⟩ := adv_ag (M := M) hL (show 2 < 3 by omega) q1
  refine ⟨r1, fun u hu => ?_⟩
  show ag u (adv L M 2 (adv L M 1 (adv L M 0 a))) = _
  rcases ag_u hu with rfl | rfl | rfl
  · rw [r3 0 (by omega) (by omega), q3 0 (by omega) (by omega), p2]
  · rw [r3 1 (by omega) (by omega), q2, p3 1 (by omega) (by omega)]
  · rw [r2, q3 2 (by omega) (by omega), p3 2 (by omega) (by omega)]
-- ===== jumps =====
def jsp (M : MT) : Nat → Nat
  | 0 => 0
  | i + 1 => match M i with | none => jsp M i | some q => if q.2.2 = 24 then i + 1 else jsp M i
theorem jsp_c (M : MT) : ∀ i, (jsp M i = 0 ∧ jbus M i = mi ∧ anyM (fun q => q.2.2 == 24) M i = false) ∨ ∃ b s k, jsp M i = b + 1 ∧ jbus M i = nI b ∧ b < i ∧ M b = some (s, k, 24)
  | 0 => Or.inl ⟨rfl, rfl, rfl⟩
  | i + 1 => by
    have ih := jsp_c M i
    rcases hM : M i with _ | q
    · have e1 : jsp M (i + 1) = jsp M i := by simp [jsp, hM]
      have e2 : jbus M (i + 1) = jbus M i := by simp [jbus, hM]
      rw [e1, e2, anyM_none hM]
      rcases ih with h | ⟨b, s, k, h1, h2, h3, h4⟩
      · exact Or.inl h
      · exact Or.inr ⟨b, s, k, h1, h2, by omega, h4⟩
    · by_cases hd : q.2.2 = 24
      · have e1 : jsp M (i + 1) = i + 1 := by simp [jsp, hM, hd]
        have e2 : jbus M (i + 1) = nI i := by simp [jbus, hM, hd]
        obtain ⟨s, k, d⟩ := q
        have hd' : d = 24 := hd
        subst hd'
        exact Or.inr ⟨i, s, k, e1, e2, by omega, hM⟩
      · have e1 : jsp M (i + 1) = jsp M i := by simp [jsp, hM, hd]
        have e2 : jbus M (i + 1) = jbus M i := by simp [jbus, hM, hd]
        rw [e1, e2, anyM_some hM]
        rcases ih with ⟨h1, h2, h3⟩ | ⟨b, s, k, h1, h2, h3, h4⟩
        · refine Or.inl ⟨h1, h2, ?_⟩
          rw [h3, beq_false_of_ne hd]; rfl
        · exact Or.inr ⟨b, s, k, h1, h2, by omega, h4⟩
theorem jsp_le (M : MT) : jsp M 4 ≤ 4 := by
  rcases jsp_c M 4 with h | ⟨b, s, k, h1, _, h3, _⟩ <;> omega
def tq (cn : Nat → Int32) (c b : Nat) : Nat := (cn (c * 4 + b) &&& 63).toNatClampNeg
theorem tq_n (cn : Nat → Int32) (c b : Nat) : cn (c * 4 + b) &&& (63 : Int32) = nI (tq cn c b) ∧ tq cn c b < 64 := by
  obtain ⟨j, hj, e⟩ := bt_63 (cn (c * 4 + b))
  unfold tq
  rw [e, nI_clamp (by omega)]
  exact ⟨rfl, hj⟩
-- ===== faults and what comes next =====
def ncj (M : MT) : Bool := anyM (fun q => q.2.2 == 24 && !(q.1 == 11)) M 4
def nxF (M : MT) (f : Nat) : Nat := if f = 0 then (if ncj M = true then 5 else 0) else f
def flt (L : Nat → Nat) (M : MT) (j a : Nat) : Nat := nxF M (FTb M (hd L a) (!(j == 0)))
def hlt (M : MT) : Bool := anyM (fun q => q.2.2 == 25) M 4
def ncy (cn : Nat → Int32) (c j : Nat) : Nat := if j ≤ 4 then (c + 1) % 64 else tq cn ((c + 62) % 64) (j - 5)
def njp (M : MT) (j : Nat) : Nat := if j = 0 then jsp M 4 else if j ≤ 4 then j + 4 else 0
def mq (K : KT) (c m : Nat) : MT := fun b => if b < 4 then mv K c (nI m) b else none
theorem mq_lt {K : KT} {c m b : Nat} (h : b < 4) : mq K c m b = mv K c (nI m) b := if_pos h
theorem mq_eq {K : KT} {c m m' : Nat} (h : ∀ b, b < 4 → (mq K c m b).isSome = (mq K c m' b).isSome) : mq K c m = mq K c m' := by
  funext b
  by_cases hb : b < 4
  · have h2 := h b hb
    rw [mq_lt hb, mq_lt hb] at h2 ⊢
    unfold mv at h2 ⊢
    rcases hk : K c b with _ | ⟨g, s, k, d⟩
    · rfl
    · rw [hk] at h2
      simp only at h2 ⊢
      by_cases e1 : allow g (nI m) = true
      · by_cases e2 : allow g (nI m') = true
        · rw [if_pos e1, if_pos e2]
        · rw [if_pos e1, if_neg e2] at h2; cases h2
      · by_cases e2 : allow g (nI m') = true
        · rw [if_neg e1, if_pos e2] at h2; cases h2
        · rw [if_neg e1, if_neg e2]
  · unfold mq; rw [if_neg hb, if_neg hb]
theorem flt_lt (L : Nat → Nat) (M : MT) (j a : Nat) : flt L M j a < 6 := by
  have := FTb_le M (hd L a) (!(j == 0))
  unfold flt nxF
  split
  · split <;> omega
  · omega
-- ===== what can be reached =====
def Rch (K : KT) (cn : Nat → Int32) (L : Nat → Nat) (c j a : Nat) : Prop := ∀ P : Nat → Nat → Nat → Prop, P 0 0 0 → (∀ c j a m, P c j a → m < 16 → flt L (mq K c m) j a = 0 → hlt (mq K c m) = false → P (ncy cn c j) (njp (mq K c m) j) (old L (mq K c m) a)) → P c j a
theorem Rch_0 (K : KT) (cn : Nat → Int32) (L : Nat → Nat) : Rch K cn L 0 0 0 := fun P h0 _ => h0
theorem Rch_s {K : KT} {cn : Nat → Int32} {L : Nat → Nat} {c j a m : Nat} (h : Rch K cn L c j a) (hm : m < 16) (hf : flt L (mq K c m) j a = 0) (hh : hlt (mq K c m) = false) : Rch K cn L (ncy cn c j) (njp (mq K c m) j) (old L (mq K c m) a) := fun P h0 hs => hs c j a m (h P h0 hs) hm hf hh
theorem ncy_lt (cn : Nat → Int32) (c j : Nat) : ncy cn c j < 64 := by
  unfold ncy
  split
  · omega
  · exact (tq_n cn _ _).2
theorem njp_lt (M : MT) {j : Nat} (hj : j < 9) : njp M j < 9 := by
  have := jsp_le M
  unfold njp
  split
  · omega
  · split <;> omega
theorem Rch_V {K : KT} {cn : Nat → Int32} {L : Nat → Nat} (hL : LJ L) {c j a : Nat} (h : Rch K cn L c j a) : c < 64 ∧ j < 9 ∧ VA L a := by
  refine h (fun c j a => c < 64 ∧ j < 9 ∧ VA L a) ⟨by omega, by omega, by omega, ?_, ?_, ?_⟩ (fun c j a m hP hm hf hh => ⟨ncy_lt _ _ _, njp_lt _ hP.2.1, (old_ag hL hP.2.2).1⟩)
  · exact Nat.zero_le _
  · exact Nat.zero_le _
  · exact Nat.zero_le _
def Wrg (K : KT) (cn : Nat → Int32) (L : Nat → Nat) (c f : Nat) : Prop := ∃ j a m, Rch K cn L c j a ∧ m < 16 ∧ flt L (mq K c m) j a = f ∧ f ≠ 0
-- ===== the least of the wrong cycles =====
def VBv (W : Nat → Nat → Prop) (x y : Int32) : Prop := (x = mi ∧ y = nI 0) ∨ ∃ c f, c < 64 ∧ f < 6 ∧ x = nI c ∧ y = nI f ∧ W c f
def BT (x y : Int32) (c f : Nat) : Prop := ∃ c0 f0, c0 < 64 ∧ f0 < 6 ∧ x = nI c0 ∧ y = nI f0 ∧ (c0 < c ∨ (c0 = c ∧ f0 ≤ f))
theorem BT_mi {y : Int32} {c f : Nat} (h : BT mi y c f) : False := by
  obtain ⟨c0, f0, h1, h2, h3, _⟩ := h
  exact nI_m1 (by omega) h3.symm
theorem VB_eq {W : Nat → Nat → Prop} {x y x' y' : Int32} (h : VBv W x y) (h' : VBv W x' y') (b : ∀ c f, W c f → BT x y c f) (b' : ∀ c f, W c f → BT x' y' c f) : x = x' ∧ y = y' := by
  rcases h with ⟨rfl, rfl⟩ | ⟨c, f, h1, h2, rfl, rfl, h5⟩
  · rcases h' with ⟨rfl, rfl⟩ | ⟨c', f', k1, k2, rfl, rfl, k5⟩
    · exact ⟨rfl, rfl⟩
    · exact absurd (b c' f' k5) BT_mi
  · rcases h' with ⟨rfl, rfl⟩ | ⟨c', f', k1, k2, rfl, rfl, k5⟩
    · exact absurd (b' c f h5) BT_mi
    · obtain ⟨c0, f0, z1, z2, z3, z4, z5⟩ := b c' f' k5
      obtain ⟨c1, f1, y1, y2, y3, y4, y5⟩ := b' c f h5
      have e1 := (nI_eq (by omega) (by omega)).mp z3
      have e2 := (nI_eq (by omega) (by omega)).mp z4
      have e3 := (nI_eq (by omega) (by omega)).mp y3
      have e4 := (nI_eq (by omega) (by omega)).mp y4
      have e5 : c = c' ∧ f = f' := by omega
      rw [e5.1, e5.2]; exact ⟨rfl, rfl⟩
theorem BT_s {c f : Nat} (hc : c < 64) (hf : f < 6) : BT (nI c) (nI f) c f := ⟨c, f, hc, hf, rfl, rfl, Or.inr ⟨rfl, Nat.le_refl _⟩⟩
theorem BT_up {c f c0 f0 : Nat} (hc : c < 64) (hf : f < 6) (hc0 : c0 < 64) (hf0 : f0 < 6) (h : c < c0 ∨ (c = c0 ∧ f ≤ f0)) {c' f' : Nat} (hb : BT (nI c0) (nI f0) c' f') : BT (nI c) (nI f) c' f' := by
  obtain ⟨c1, f1, z1, z2, z3, z4, z5⟩ := hb
  have e1 := (nI_eq (by omega) (by omega)).mp z3
  have e2 := (nI_eq (by omega) (by omega)).mp z4
  exact ⟨c, f, hc, hf, rfl, rfl, by omega⟩
theorem blame_n {W : Nat → Nat → Prop} {ju : Nat → Int32} (hv : VBv W (ju 8) (ju 9)) {c f : Nat} (hc : c < 64) (hf : f < 6) (hW : W c f) : ∃ ju', f_Ju_blame ju (nI c) (nI f) = some ju' ∧ VBv W (ju' 8) (ju' 9) ∧ BT (ju' 8) (ju' 9) c f ∧ (∀ c' f', BT (ju 8) (ju 9) c' f' → BT (ju' 8) (ju' 9) c' f') ∧ ∀ i, i ≠ 8 → i ≠ 9 → ju' i = ju i := by
  have hnew : VBv W (upd (upd ju 8 (nI c)) 9 (nI f) 8) (upd (upd ju 8 (nI c)) 9 (nI f) 9) := by
    rw [upd_n (by omega), upd_s, upd_s]
    exact Or.inr ⟨c, f, hc, hf, rfl, rfl, hW⟩
  have hbt : BT (upd (upd ju 8 (nI c)) 9 (nI f) 8) (upd (upd ju 8 (nI c)) 9 (nI f) 9) c f := by
    rw [upd_n (by omega), upd_s, upd_s]; exact BT_s hc hf
  have hrest : ∀ i, i ≠ 8 → i ≠ 9 → upd (upd ju 8 (nI c)) 9 (nI f) i = ju i := fun i h8 h9 => by rw [upd_n h9, upd_n h8]
  unfold f_Ju_blame f_Ju_blame_16
  rcases hv with ⟨e1, e2⟩ | ⟨c0, f0, k1, k2, e1, e2, k5⟩
  · refine ⟨_, ?_, hnew, hbt, fun c' f' hb => ?_, hrest⟩
    · simp (disch := omega) only [lI, nI_add, pk_mul, nI_leI, nI_ltI, nI_eq, ck_n, nm_n, nI_clamp, Option.bind_some, if_pos, if_neg, bk_n0, bk_n1, nI_sub, upd_s, mi_e, mi_ne, mi_ne2, mi_lt, mi_le, mi_nle, mi_nlt, mi_s, bt_shrE, bit_e, true_and, and_true, if_true, if_false, ne_eq, not_true_eq_false, not_false_eq_true, Bool.false_eq_true, Bool.true_eq_false, reduceCtorEq, e1]
    · rw [e1] at hb; exact absurd hb BT_mi
  · by_cases h1 : c0 ≤ c
    · by_cases h2 : c = c0
      · subst h2
        by_cases h3 : f < f0
        · refine ⟨upd ju 9 (nI f), ?_, ?_, ?_, fun c' f' hb => ?_, fun i _ h9 => upd_n h9⟩
          · simp (disch := omega) only [lI, nI_add, pk_mul, nI_leI, nI_ltI, nI_eq, ck_n, nm_n, nI_clamp, Option.bind_some, if_pos, if_neg, bk_n0, bk_n1, nI_sub, upd_s, mi_e, mi_ne, mi_ne2, mi_lt, mi_le, mi_nle, mi_nlt, mi_s, bt_shrE, bit_e, true_and, and_true, if_true, if_false, ne_eq, not_true_eq_false, not_false_eq_true, Bool.false_eq_true, Bool.true_eq_false, reduceCtorEq, e1, e2]
          · rw [upd_n (by omega), upd_s, e1]; exact Or.inr ⟨c, f, hc, hf, rfl, rfl, hW⟩
          · rw [upd_n (by omega), upd_s, e1]; exact BT_s hc hf
          · rw [upd_n (by omega), upd_s, e1]
            rw [e1, e2] at hb
            exact BT_up hc hf k1 k2 (Or.inr ⟨rfl, by omega⟩) hb
        · refine ⟨upd ju 9 (nI f0), ?_, ?_, ?_, fun c' f' hb => ?_, fun i _ h9 => upd_n h9⟩
          · simp (disch := omega) only [lI, nI_add, pk_mul, nI_leI, nI_ltI, nI_eq, ck_n, nm_n, nI_clamp, Option.bind_some, if_pos, if_neg, bk_n0, bk_n1, nI_sub, upd_s, mi_e, mi_ne, mi_ne2, mi_lt, mi_le, mi_nle, mi_nlt, mi_s, bt_shrE, bit_e, true_and, and_true, if_true, if_false, ne_eq, not_true_eq_false, not_false_eq_true, Bool.false_eq_true, Bool.true_eq_false, reduceCtorEq, e1, e2]
          · rw [upd_n (by omega), upd_s, e1]; exact Or.inr ⟨c, f0, hc, k2, rfl, rfl, k5⟩
          · rw [upd_n (by omega), upd_s, e1]; exact ⟨c, f0, hc, k2, rfl, rfl, Or.inr ⟨rfl, by omega⟩⟩
          · rw [upd_n (by omega), upd_s, e1]
            rw [e1, e2] at hb
            exact hb
      · refine ⟨ju, ?_, Or.inr ⟨c0, f0, k1, k2, e1, e2, k5⟩, ?_, fun c' f' hb => hb, fun i _ _ => rfl⟩
        · simp (disch := omega) only [lI, nI_add, pk_mul, nI_leI, nI_ltI, nI_eq, ck_n, nm_n, nI_clamp, Option.bind_some, if_pos, if_neg, bk_n0, bk_n1, nI_sub, upd_s, mi_e, mi_ne, mi_ne2, mi_lt, mi_le, mi_nle, mi_nlt, mi_s, bt_shrE, bit_e, true_and, and_true, if_true, if_false, ne_eq, not_true_eq_false, not_false_eq_true, Bool.false_eq_true, Bool.true_eq_false, reduceCtorEq, e1, e2]
        · rw [e1, e2]; exact ⟨c0, f0, k1, k2, rfl, rfl, Or.inl (by omega)⟩
    · refine ⟨_, ?_, hnew, hbt, fun c' f' hb => ?_, hrest⟩
      · simp (disch := omega) only [lI, nI_add, pk_mul, nI_leI, nI_ltI, nI_eq, ck_n, nm_n, nI_clamp, Option.bind_some, if_pos, if_neg, bk_n0, bk_n1, nI_sub, upd_s, mi_e, mi_ne, mi_ne2, mi_lt, mi_le, mi_nle, mi_nlt, mi_s, bt_shrE, bit_e, true_and, and_true, if_true, if_false, ne_eq, not_true_eq_false, not_false_eq_true, Bool.false_eq_true, Bool.true_eq_false, reduceCtorEq, e1, e2]
      · rw [upd_n (by omega), upd_s, upd_s]
        rw [e1, e2] at hb
        exact BT_up hc hf k1 k2 (Or.inl (by omega)) hb
theorem mwrong_n {W : Nat → Nat → Prop} {mo : Nat → Int32} (hv : VBv W (mo 24) (mo 25)) {c f : Nat} (hc : c < 64) (hf : f < 6) (hW : W c f) : ∃ mo', f_Mo_wrong mo (nI c) (nI f) = some mo' ∧ VBv W (mo' 24) (mo' 25) ∧ BT (mo' 24) (mo' 25) c f ∧ (∀ c' f', BT (mo 24) (mo 25) c' f' → BT (mo' 24) (mo' 25) c' f') ∧ ∀ i, i ≠ 24 → i ≠ 25 → mo' i = mo i := by
  have hnew : VBv W (upd (upd mo 24 (nI c)) 25 (nI f) 24) (upd (upd mo 24 (nI c)) 25 (nI f) 25) := by
    rw [upd_n (by omega), upd_s, upd_s]
    exact Or.inr ⟨c, f, hc, hf, rfl, rfl, hW⟩
  have hbt : BT (upd (upd mo 24 (nI c)) 25 (nI f) 24) (upd (upd mo 24 (nI c)) 25 (nI f) 25) c f := by
    rw [upd_n (by omega), upd_s, upd_s]; exact BT_s hc hf
  have hrest : ∀ i, i ≠ 24 → i ≠ 25 → upd (upd mo 24 (nI c)) 25 (nI f) i = mo i := fun i h8 h9 => by rw [upd_n h9, upd_n h8]
  unfold f_Mo_wrong f_Mo_wrong_33
  rcases hv with ⟨e1, e2⟩ | ⟨c0, f0, k1, k2, e1, e2, k5⟩
  · refine ⟨_, ?_, hnew, hbt, fun c' f' hb => ?_, hrest⟩
    · simp (disch := omega) only [lI, nI_add, pk_mul, nI_leI, nI_ltI, nI_eq, ck_n, nm_n, nI_clamp, Option.bind_some, if_pos, if_neg, bk_n0, bk_n1, nI_sub, upd_s, mi_e, mi_ne, mi_ne2, mi_lt, mi_le, mi_nle, mi_nlt, mi_s, bt_shrE, bit_e, true_and, and_true, if_true, if_false, ne_eq, not_true_eq_false, not_false_eq_true, Bool.false_eq_true, Bool.true_eq_false, reduceCtorEq, e1]
    · rw [e1] at hb; exact absurd hb BT_mi
  · rcases Nat.lt_trichotomy c0 c with h | h | h
    · refine ⟨mo, ?_, Or.inr ⟨c0, f0, k1, k2, e1, e2, k5⟩, ?_, fun c' f' hb => hb, fun i _ _ => rfl⟩
      · simp (disch := omega) only [lI, nI_add, pk_mul, nI_leI, nI_ltI, nI_eq, ck_n, nm_n, nI_clamp, Option.bind_some, if_pos, if_neg, bk_n0, bk_n1, nI_sub, upd_s, mi_e, mi_ne, mi_ne2, mi_lt, mi_le, mi_nle, mi_nlt, mi_s, bt_shrE, bit_e, true_and, and_true, if_true, if_false, ne_eq, not_true_eq_false, not_false_eq_true, Bool.false_eq_true, Bool.true_eq_false, reduceCtorEq, e1]
      · rw [e1, e2]; exact ⟨c0, f0, k1, k2, rfl, rfl, Or.inl h⟩
    · subst h
      by_cases h3 : f < f0
      · refine ⟨_, ?_, hnew, hbt, fun c' f' hb => ?_, hrest⟩
        · simp (disch := omega) only [lI, nI_add, pk_mul, nI_leI, nI_ltI, nI_eq, ck_n, nm_n, nI_clamp, Option.bind_some, if_pos, if_neg, bk_n0, bk_n1, nI_sub, upd_s, mi_e, mi_ne, mi_ne2, mi_lt, mi_le, mi_nle, mi_nlt, mi_s, bt_shrE, bit_e, true_and, and_true, if_true, if_false, ne_eq, not_true_eq_false, not_false_eq_true, Bool.false_eq_true, Bool.true_eq_false, reduceCtorEq, e1, e2]
        · rw [upd_n (by omega), upd_s, upd_s]
          rw [e1, e2] at hb
          exact BT_up hc hf k1 k2 (Or.inr ⟨rfl, by omega⟩) hb
      · refine ⟨mo, ?_, Or.inr ⟨c0, f0, k1, k2, e1, e2, k5⟩, ?_, fun c' f' hb => hb, fun i _ _ => rfl⟩
        · simp (disch := omega) only [lI, nI_add, pk_mul, nI_leI, nI_ltI, nI_eq, ck_n, nm_n, nI_clamp, Option.bind_some, if_pos, if_neg, bk_n0, bk_n1, nI_sub, upd_s, mi_e, mi_ne, mi_ne2, mi_lt, mi_le, mi_nle, mi_nlt, mi_s, bt_shrE, bit_e, true_and, and_true, if_true, if_false, ne_eq, not_true_eq_false, not_false_eq_true, Bool.false_eq_true, Bool.true_eq_false, reduceCtorEq, e1, e2]
        · rw [e1, e2]; exact ⟨c0, f0, k1, k2, rfl, rfl, Or.inr ⟨rfl, by omega⟩⟩
    · refine ⟨_, ?_, hnew, hbt, fun c' f' hb => ?_, hrest⟩
      · simp (disch := omega) only [lI, nI_add, pk_mul, nI_leI, nI_ltI, nI_eq, ck_n, nm_n, nI_clamp, Option.bind_some, if_pos, if_neg, bk_n0, bk_n1, nI_sub, upd_s, mi_e, mi_ne, mi_ne2, mi_lt, mi_le, mi_nle, mi_nlt, mi_s, bt_shrE, bit_e, true_and, and_true, if_true, if_false, ne_eq, not_true_eq_false, not_false_eq_true, Bool.false_eq_true, Bool.true_eq_false, reduceCtorEq, e1]
      · rw [upd_n (by omega), upd_s, upd_s]
        rw [e1, e2] at hb
        exact BT_up hc hf k1 k2 (Or.inl h) hb
