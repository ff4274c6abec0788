-- ===== how the desk's rows grow =====
def RP (R : Nat → Nat → Nat → Prop) (p a : Nat) : Prop := R (p / 9) (p % 9) a
def GR (R : Nat → Nat → Nat → Prop) (W : Nat → Nat → Prop) (ju : Nat → Int32) (rd fr : Nat → Int64) (ju' : Nat → Int32) (rd' fr' : Nat → Int64) : Prop :=
  (∀ p a, bl (rd p) a = true → bl (rd' p) a = true) ∧ (∀ p a, bl (fr p) a = true → bl (fr' p) a = true) ∧ (∀ p a, bl (rd' p) a = true → bl (rd p) a = true ∨ bl (fr' p) a = true) ∧ (∀ p, p < 576 → ∀ a, bl (rd' p) a = true → bl (rd p) a = true ∨ RP R p a) ∧ (∀ p a, bl (fr' p) a = true → bl (fr p) a = true ∨ bl (rd' p) a = true) ∧ (∀ c f, BT (ju 8) (ju 9) c f → BT (ju' 8) (ju' 9) c f) ∧ VBv W (ju' 8) (ju' 9) ∧ ((ju' 7 = ju 7 ∧ ∀ p, fr' p = fr p ∧ rd' p = rd p) ∨ (ju' 7 = nI 1 ∧ ∃ p a, p < 576 ∧ a < 40 ∧ bl (rd' p) a = true ∧ bl (rd p) a = false))
theorem GR_refl {R : Nat → Nat → Nat → Prop} {W : Nat → Nat → Prop} {ju : Nat → Int32} {rd fr : Nat → Int64} (hv : VBv W (ju 8) (ju 9)) : GR R W ju rd fr ju rd fr :=
  ⟨fun _ _ h => h, fun _ _ h => h, fun _ _ h => Or.inl h, fun _ _ _ h => Or.inl h, fun _ _ h => Or.inl h, fun _ _ h => h, hv, Or.inl ⟨rfl, fun _ => ⟨rfl, rfl⟩⟩⟩
theorem GR_trans {R : Nat → Nat → Nat → Prop} {W : Nat → Nat → Prop} {ju ju1 ju2 : Nat → Int32} {rd fr rd1 fr1 rd2 fr2 : Nat → Int64} (h : GR R W ju rd fr ju1 rd1 fr1) (k : GR R W ju1 rd1 fr1 ju2 rd2 fr2) : GR R W ju rd fr ju2 rd2 fr2 := by
  obtain ⟨h1, h2, h3, h4, h5, h6, h7, h8⟩ := h
  obtain ⟨k1, k2, k3, k4, k5, k6, k7, k8⟩ := k
  refine ⟨fun p a q => k1 p a (h1 p a q), fun p a q => k2 p a (h2 p a q), fun p a q => ?_, fun p hp a q => ?_, fun p a q => ?_, fun c f q => k6 c f (h6 c f q), k7, ?_⟩
  · rcases k3 p a q with z | z
    · rcases h3 p a z with y | y
      · exact Or.inl y
      · exact Or.inr (k2 p a y)
    · exact Or.inr z
  · rcases k4 p hp a q with z | z
    · exact h4 p hp a z
    · exact Or.inr z
  · rcases k5 p a q with z | z
    · rcases h5 p a z with y | y
      · exact Or.inl y
      · exact Or.inr (k1 p a y)
    · exact Or.inr z
  · rcases k8 with ⟨z1, z2⟩ | ⟨z1, p, a, z2, z3, z4, z5⟩
    · rcases h8 with ⟨y1, y2⟩ | ⟨y1, p, a, y2, y3, y4, y5⟩
      · exact Or.inl ⟨z1.trans y1, fun p => ⟨(z2 p).1.trans (y2 p).1, (z2 p).2.trans (y2 p).2⟩⟩
      · exact Or.inr ⟨z1.trans y1, p, a, y2, y3, by rw [(z2 p).2]; exact y4, y5⟩
    · refine Or.inr ⟨z1, p, a, z2, z3, z4, ?_⟩
      cases e : bl (rd p) a
      · rfl
      · rw [h1 p a e] at z5; cases z5
theorem GR_ju {R : Nat → Nat → Nat → Prop} {W : Nat → Nat → Prop} {ju ju' : Nat → Int32} {rd fr : Nat → Int64} (h1 : VBv W (ju' 8) (ju' 9)) (h2 : ∀ c f, BT (ju 8) (ju 9) c f → BT (ju' 8) (ju' 9) c f) (h3 : ∀ i, i ≠ 8 → i ≠ 9 → ju' i = ju i) : GR R W ju rd fr ju' rd fr :=
  ⟨fun _ _ h => h, fun _ _ h => h, fun _ _ h => Or.inl h, fun _ _ _ h => Or.inl h, fun _ _ h => Or.inl h, h2, h1, Or.inl ⟨h3 7 (by omega) (by omega), fun _ => ⟨rfl, rfl⟩⟩⟩
theorem bl_lt {x : Int64} {a : Nat} (h : bl x a = true) : a < 64 := by
  rcases Nat.lt_or_ge a 64 with q | q
  · exact q
  · rw [bl_ge x q] at h; cases h
theorem reach_n {R : Nat → Nat → Nat → Prop} {W : Nat → Nat → Prop} {ju : Nat → Int32} {rd fr : Nat → Int64} {X : Int64} (hv : VBv W (ju 8) (ju 9)) {c j : Nat} (hc : c < 64) (hj : j < 9) (hX : ∀ a, bl X a = true → R c j a) (hR : ∀ a, R c j a → a < 40) : ∃ ju' rd' fr', f_Ju_reach ju rd fr (nI c) (nI j) X = some (ju', rd', fr') ∧ GR R W ju rd fr ju' rd' fr' ∧ ∀ a, bl X a = true → bl (rd' (c * 9 + j)) a = true := by
  have hp : c * 9 + j < 576 := by omega
  have hb : ∀ a, bl X a = true → bl (X &&& (rd (c * 9 + j) ^^^ (-1 : Int64))) a = !bl (rd (c * 9 + j)) a := fun a ha => by
    rw [bl_and, bl_not _ (bl_lt ha), ha]; rfl
  unfold f_Ju_reach
  have ei : nI c * (9 : Int32) + nI j = nI (c * 9 + j) := by
    show nI c * nI 9 + nI j = _
    rw [pk_mul, nI_add]
  rw [ei, nm_n, nm_n]
  simp only [nI_clamp (show c * 9 + j < 2 ^ 31 by omega), ck_n hp (show 576 < 2 ^ 31 by omega)]
  by_cases e : X &&& (rd (c * 9 + j) ^^^ (-1 : Int64)) = 0
  · refine ⟨ju, rd, fr, ?_, GR_refl hv, fun a ha => ?_⟩
    · rw [if_pos ((lgc_eq _ _).mpr e)]
    · have h1 := hb a ha
      rw [e, bl_zero] at h1
      cases h2 : bl (rd (c * 9 + j)) a
      · rw [h2] at h1; cases h1
      · rfl
  · have hnz : ∃ a, bl (X &&& (rd (c * 9 + j) ^^^ (-1 : Int64))) a = true := by
      refine Classical.byContradiction (fun hn => e (bl_eq0.mpr (fun i _ => ?_)))
      cases h2 : bl (X &&& (rd (c * 9 + j) ^^^ (-1 : Int64))) i
      · rfl
      · exact absurd ⟨i, h2⟩ hn
    have hs : ∀ (r : Nat → Int64) (x : Int64) (p a : Nat), bl (vp_updL r (c * 9 + j) (r (c * 9 + j) ||| x) p) a = (bl (r p) a || (decide (p = c * 9 + j) && bl x a)) := fun r x p a => by
      by_cases ep : p = c * 9 + j
      · subst ep; rw [updL_s, bl_or]; simp
      · rw [updL_n ep]; simp [ep]
    have hx3 : ∀ a, bl (X &&& (rd (c * 9 + j) ^^^ (-1 : Int64))) a = true → bl X a = true ∧ bl (rd (c * 9 + j)) a = false := fun a ha => by
      have h64 := bl_lt ha
      rw [bl_and, bl_not _ h64] at ha
      simpa using ha
    refine ⟨upd ju 7 1, _, _, by rw [if_neg (fun q => e ((lgc_eq _ _).mp q))], ⟨fun p a h => ?_, fun p a h => ?_, fun p a h => ?_, fun p hp2 a h => ?_, fun p a h => ?_, fun c' f' h => ?_, ?_, ?_⟩, fun a ha => ?_⟩
    · rw [hs, h]; rfl
    · rw [hs, h]; rfl
    · rw [hs] at h ⊢
      rcases (Bool.or_eq_true _ _).mp h with q | q
      · exact Or.inl q
      · exact Or.inr ((Bool.or_eq_true _ _).mpr (Or.inr q))
    · rw [hs] at h
      rcases (Bool.or_eq_true _ _).mp h with q | q
      · exact Or.inl q
      · right
        rw [Bool.and_eq_true, decide_eq_true_eq] at q
        obtain ⟨q1, q2⟩ := q
        subst q1
        unfold RP
        rw [show (c * 9 + j) / 9 = c by omega, show (c * 9 + j) % 9 = j by omega]
        exact hX a (hx3 a q2).1
    · rw [hs] at h ⊢
      rcases (Bool.or_eq_true _ _).mp h with q | q
      · exact Or.inl q
      · exact Or.inr ((Bool.or_eq_true _ _).mpr (Or.inr q))
    · rw [upd_n (by omega), upd_n (by omega)]; exact h
    · rw [upd_n (by omega), upd_n (by omega)]; exact hv
    · right
      obtain ⟨a, ha⟩ := hnz
      refine ⟨upd_s ju 7 1, c * 9 + j, a, hp, hR a (hX a (hx3 a ha).1), ?_, (hx3 a ha).2⟩
      rw [hs, ha]; simp
    · rw [hs]
      cases h2 : bl (rd (c * 9 + j)) a
      · have := hb a ha
        rw [h2] at this
        rw [this]; simp
      · rfl
-- ===== the ages, a cycle on =====
def JR (L : Nat → Nat) (ub wr : Nat → Int64) : Prop := ∀ u, u < 3 → ∀ a, bl (ub u) a = (decide (a < 40) && decide (ag u a = 0)) ∧ bl (wr u) a = (decide (a < 40) && decide (ag u a = L u))
theorem asV_n : ∀ u, u < 3 → asV u = nI (sg u) ∧ sg u < 64 := by decide +kernel
theorem old_bit {L : Nat → Nat} (hL : LJ L) {M : MT} {X k : Int64} {u : Nat} (hu : u < 3) (hk : ∀ a, a < 40 → bl k a = kp L M u a) (hX : ∀ a, bl X a = true → VA L a) : ∀ b, bl ((X &&& k) ||| ((X &&& (k ^^^ (-1 : Int64))) <<< ((asV u).toInt64 &&& 63))) b = true ↔ ∃ a, bl X a = true ∧ adv L M u a = b := fun b => by
  obtain ⟨e1, e2⟩ := asV_n u hu
  rw [e1]
  by_cases hb : b < 64
  · rw [bl_or, bl_and, bl_shl _ e2 hb, bl_and, bl_not _ (by omega)]
    constructor
    · intro h
      rcases (Bool.or_eq_true _ _).mp h with q | q
      · rw [Bool.and_eq_true] at q
        refine ⟨b, q.1, ?_⟩
        unfold adv
        rw [if_pos (by rw [← hk b (hX b q.1).1]; exact q.2)]
      · rw [Bool.and_eq_true, Bool.and_eq_true, decide_eq_true_eq] at q
        obtain ⟨q1, q2, q3⟩ := q
        refine ⟨b - sg u, q2, ?_⟩
        unfold adv
        rw [hk (b - sg u) (hX _ q2).1] at q3
        rw [if_neg (by intro z; rw [z] at q3; cases q3)]
        omega
    · rintro ⟨a, h1, h2⟩
      have h40 := (hX a h1).1
      unfold adv at h2
      by_cases z : kp L M u a = true
      · rw [if_pos z] at h2
        subst h2
        rw [h1, hk a h40, z]; rfl
      · rw [if_neg z] at h2
        subst h2
        have e3 : a + sg u - sg u = a := by omega
        rw [e3, h1, hk a h40]
        have z2 : kp L M u a = false := by simpa using z
        rw [z2]
        simp
  · rw [bl_ge _ (by omega)]
    constructor
    · intro h; cases h
    · rintro ⟨a, h1, h2⟩
      exfalso
      have h3 := (adv_ag (M := M) hL hu (hX a h1)).1.1
      omega
theorem old_step {L : Nat → Nat} (hL : LJ L) {M : MT} {ub wr : Nat → Int64} (hJ : JR L ub wr) {jb : Nat → Int32} (hb : ∀ u, u < 3 → bt (jb 4) u = bgM M u) {X : Int64} (hX : ∀ a, bl X a = true → VA L a) {u : Nat} (hu : u < 3) (n : Nat) (ju : Nat → Int32) : ∃ Y, f_Ju_older_5 (n + 1) ju jb ub wr X (nI u) = f_Ju_older_5 n ju jb ub wr Y (nI (u + 1)) ∧ (∀ b, bl Y b = true ↔ ∃ a, bl X a = true ∧ adv L M u a = b) ∧ ∀ a, bl Y a = true → VA L a := by
  have hv : ∀ Y : Int64, (∀ b, bl Y b = true ↔ ∃ a, bl X a = true ∧ adv L M u a = b) → ∀ a, bl Y a = true → VA L a := fun Y hY a ha => by
    obtain ⟨x, h1, h2⟩ := (hY a).mp ha
    rw [← h2]; exact (adv_ag hL hu (hX x h1)).1
  rw [f_Ju_older_5]
  unfold f_Ju_older_47
  cases hg : bgM M u
  · refine ⟨(X &&& (wr u ||| ub u)) ||| ((X &&& ((wr u ||| ub u) ^^^ (-1 : Int64))) <<< ((asV u).toInt64 &&& 63)), ?_, ?_, ?_⟩
    · have := hb u hu
      rw [hg] at this
      simp (disch := omega) only [lI, nI_leI, if_neg, ck_n, nm_n, nI_clamp, bt_shrE, this, if_true, nI_add]
    · exact old_bit hL hu (fun a ha => by
        rw [bl_or, (hJ u hu a).1, (hJ u hu a).2]
        unfold kp
        rw [hg]; simp [ha]) hX
    · exact hv _ (old_bit hL hu (fun a ha => by
        rw [bl_or, (hJ u hu a).1, (hJ u hu a).2]
        unfold kp
        rw [hg]; simp [ha]) hX)
  · refine ⟨(X &&& wr u) ||| ((X &&& (wr u ^^^ (-1 : Int64))) <<< ((asV u).toInt64 &&& 63)), ?_, ?_, ?_⟩
    · have := hb u hu
      rw [hg] at this
      simp (disch := omega) only [lI, nI_leI, if_neg, ck_n, nm_n, nI_clamp, bt_shrE, this, Bool.true_eq_false, not_false_eq_true, if_false, nI_add]
    · exact old_bit hL hu (fun a ha => by
        rw [(hJ u hu a).2]
        unfold kp
        rw [hg]; simp [ha]) hX
    · exact hv _ (old_bit hL hu (fun a ha => by
        rw [(hJ u hu a).2]
        unfold kp
        rw [hg]; simp [ha]) hX)
theorem older_n {L : Nat → Nat} (hL : LJ L) {M : MT} {ub wr : Nat → Int64} (hJ : JR L ub wr) {jb : Nat → Int32} (hb : ∀ u, u < 3 → bt (jb 4) u = bgM M u) {X : Int64} (hX : ∀ a, bl X a = true → VA L a) (ju : Nat → Int32) : ∃ Y, f_Ju_older ju jb ub wr X = some Y ∧ ∀ b, bl Y b = true ↔ ∃ a, bl X a = true ∧ old L M a = b := by
  obtain ⟨Y0, a1, a2, a3⟩ := old_step hL hJ hb hX (u := 0) (by omega) 4999 ju
  obtain ⟨Y1, b1, b2, b3⟩ := old_step hL hJ hb a3 (u := 1) (by omega) 4998 ju
  obtain ⟨Y2, c1, c2, c3⟩ := old_step hL hJ hb b3 (u := 2) (by omega) 4997 ju
  have d1 : f_Ju_older_5 4997 ju jb ub wr Y2 (nI 3) = some Y2 := by
    rw [show 4997 = 4996 + 1 from rfl, f_Ju_older_5]; simp (disch := omega) only [lI, nI_add, pk_mul, nI_leI, nI_ltI, nI_eq, ck_n, nm_n, nI_clamp, Option.bind_some, if_pos, if_neg, bk_n0, bk_n1, nI_sub, upd_s, mi_e, mi_ne, mi_ne2, mi_lt, mi_le, mi_nle, mi_nlt, mi_s, bt_shrE, bit_e, true_and, and_true, if_true, if_false, ne_eq, not_true_eq_false, not_false_eq_true, Bool.false_eq_true, Bool.true_eq_false, reduceCtorEq]
  refine ⟨Y2, a1.trans (b1.trans (c1.trans d1)), fun b => ?_⟩
  constructor
  · intro h
    obtain ⟨y, h1, h2⟩ := (c2 b).mp h
    obtain ⟨x, k1, k2⟩ := (b2 y).mp h1
    obtain ⟨a, m1, m2⟩ := (a2 x).mp k1
    exact ⟨a, m1, by unfold old; rw [m2, k2, h2]⟩
  · rintro ⟨a, h1, h2⟩
    exact (c2 b).mpr ⟨_, (b2 _).mpr ⟨_, (a2 _).mpr ⟨a, h1, rfl⟩, rfl⟩, h2⟩
