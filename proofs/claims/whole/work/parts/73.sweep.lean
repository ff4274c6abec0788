-- ===== leaving a state by every choice =====
def PT (M : MT) (w : Nat) : Prop := ∀ b, b < 4 → Nat.testBit w b = (M b).isSome
def CHc (K : KT) (c : Nat) (x : Int32) : Prop := ∀ w, w < 16 → (bt x w = true ↔ ∃ m, m < 16 ∧ PT (mq K c m) w)
theorem PT_eq {K : KT} {c m m' w : Nat} (h : PT (mq K c m) w) (h' : PT (mq K c m') w) : mq K c m = mq K c m' := mq_eq (fun b hb => (h b hb).symm.trans (h' b hb))
theorem made_w {B : Nat} {K : KT} {r_co ta gu so cn de mc : Nat → Int32} (h : RC B K ta gu so cn de mc) (hB : r_co 0 = nI B) {c : Nat} (hc : c < 64) (m : Nat) : ∃ w, w < 16 ∧ f_Co_madeWith r_co ta gu (nI c) (nI m) = some (nI w) ∧ PT (mq K c m) w := by
  obtain ⟨x, h1, h2, h3⟩ := madeWith_n h hB hc (nI m)
  obtain ⟨w, k1, k2, k3⟩ := bt_small 4 h3
  refine ⟨w, k1, by rw [h1, k2], fun b hb => ?_⟩
  rw [mq_lt hb, ← k3 b (by omega), h2 b hb]
theorem choices_lp {B : Nat} {K : KT} {r_co ta gu so cn de mc : Nat → Int32} (h : RC B K ta gu so cn de mc) (hB : r_co 0 = nI B) {c : Nat} (hc : c < 64) (ju : Nat → Int32) : ∀ (d i n : Nat) (x : Int32), i + d = 16 → d < n → (∀ w, w < 16 → (bt x w = true ↔ ∃ m, m < i ∧ PT (mq K c m) w)) → ∃ y, f_Ju_choicesIn_4 n r_co ta gu ju (nI c) x (nI i) = some y ∧ CHc K c y
  | 0, i, n + 1, x, hi, hn, hx => by
    have e : i = 16 := by omega
    subst e
    refine ⟨x, ?_, hx⟩
    rw [f_Ju_choicesIn_4]; simp (disch := omega) only [lI, nI_add, pk_mul, nI_leI, nI_ltI, nI_eq, ck_n, nm_n, nI_clamp, Option.bind_some, if_pos, if_neg, bk_n0, bk_n1, nI_sub, upd_s, mi_e, mi_ne, mi_ne2, mi_lt, mi_le, mi_nle, mi_nlt, mi_s, bt_shrE, bit_e, true_and, and_true, if_true, if_false, ne_eq, not_true_eq_false, not_false_eq_true, Bool.false_eq_true, Bool.true_eq_false, reduceCtorEq]
  | d + 1, i, n + 1, x, hi, hn, hx => by
    obtain ⟨w0, k1, k2, k3⟩ := made_w h hB hc i
    obtain ⟨y, q1, q2⟩ := choices_lp h hB hc ju d (i + 1) n (x ||| bit w0) (by omega) (by omega) (fun w hw => by
      rw [bt_or, bt_bit (by omega), Bool.or_eq_true, hx w hw, decide_eq_true_eq]
      constructor
      · rintro (⟨m, z1, z2⟩ | rfl)
        · exact ⟨m, by omega, z2⟩
        · exact ⟨i, by omega, k3⟩
      · rintro ⟨m, z1, z2⟩
        by_cases e : m = i
        · subst e
          right
          have : ∀ a, a < 16 → ∀ b, b < 16 → (∀ t, t < 4 → Nat.testBit a t = Nat.testBit b t) → a = b := by decide +kernel
          exact this w hw w0 k1 (fun t ht => (z2 t ht).trans (k3 t ht).symm)
        · exact Or.inl ⟨m, by omega, z2⟩)
    refine ⟨y, ?_, q2⟩
    rw [f_Ju_choicesIn_4]; simp (disch := omega) only [lI, nI_add, pk_mul, nI_leI, nI_ltI, nI_eq, ck_n, nm_n, nI_clamp, Option.bind_some, if_pos, if_neg, bk_n0, bk_n1, nI_sub, upd_s, mi_e, mi_ne, mi_ne2, mi_lt, mi_le, mi_nle, mi_nlt, mi_s, bt_shrE, bit_e, true_and, and_true, if_true, if_false, ne_eq, not_true_eq_false, not_false_eq_true, Bool.false_eq_true, Bool.true_eq_false, reduceCtorEq, k2, q1]
theorem choices_n {B : Nat} {K : KT} {r_co ta gu so cn de mc : Nat → Int32} (h : RC B K ta gu so cn de mc) (hB : r_co 0 = nI B) {c : Nat} (hc : c < 64) (ju : Nat → Int32) : ∃ y, f_Ju_choicesIn r_co ta gu ju (nI c) = some y ∧ CHc K c y :=
  choices_lp h hB hc ju 16 0 5000 0 (by omega) (by omega) (fun w hw => by
    rw [bt_zero]
    constructor
    · intro z; cases z
    · rintro ⟨m, z, _⟩; omega)
theorem MC_mq {B : Nat} {K : KT} {ta gu so cn de mc : Nat → Int32} (h : RC B K ta gu so cn de mc) {c : Nat} (hc : c < 64) (m : Nat) : MC (mq K c m) c so cn de mc := fun b hb s k d he => by
  rw [mq_lt hb] at he
  exact MC_mv h hc (nI m) b hb s k d he
theorem leave_lp {B : Nat} {K : KT} {L : Nat → Nat} (hL : LJ L) {r_co ta gu so cn de mc ch : Nat → Int32} (h : RC B K ta gu so cn de mc) {ub wr : Nat → Int64} (hJ : JR L ub wr) {c j : Nat} (hc : c < 64) (hj : j < 9) (hch : CHc K c (ch c)) {X : Int64} (hX : ∀ a, bl X a = true → Rch K cn L c j a) : ∀ (d i n : Nat) (ju jb : Nat → Int32) (rd fr : Nat → Int64), i + d = 16 → d < n → VBv (Wrg K cn L) (ju 8) (ju 9) → (∀ w m, w < i → m < 16 → PT (mq K c m) w → ∀ a, bl X a = true → DN K cn L (mq K c m) ju rd c j a) → ∃ ju' jb' rd' fr', f_Ju_leave_3 n r_co so cn de ju jb ch rd fr ub wr (nI c) (nI j) X (nI i) = some (ju', jb', rd', fr') ∧ GR (Rch K cn L) (Wrg K cn L) ju rd fr ju' rd' fr' ∧ ∀ w m, w < 16 → m < 16 → PT (mq K c m) w → ∀ a, bl X a = true → DN K cn L (mq K c m) ju' rd' c j a
  | 0, i, n + 1, ju, jb, rd, fr, hi, hn, hv, hd => by
    have e : i = 16 := by omega
    subst e
    refine ⟨ju, jb, rd, fr, ?_, GR_refl hv, hd⟩
    rw [f_Ju_leave_3]; simp (disch := omega) only [lI, nI_add, pk_mul, nI_leI, nI_ltI, nI_eq, ck_n, nm_n, nI_clamp, Option.bind_some, if_pos, if_neg, bk_n0, bk_n1, nI_sub, upd_s, mi_e, mi_ne, mi_ne2, mi_lt, mi_le, mi_nle, mi_nlt, mi_s, bt_shrE, bit_e, true_and, and_true, if_true, if_false, ne_eq, not_true_eq_false, not_false_eq_true, Bool.false_eq_true, Bool.true_eq_false, reduceCtorEq]
  | d + 1, i, n + 1, ju, jb, rd, fr, hi, hn, hv, hd => by
    have hbt := hch i (by omega)
    rw [f_Ju_leave_3]
    unfold f_Ju_leave_45
    cases hb : bt (ch c) i
    · obtain ⟨ju', jb', rd', fr', q1, q2, q3⟩ := leave_lp hL (r_co := r_co) (ch := ch) h hJ hc hj hch hX d (i + 1) n ju jb rd fr (by omega) (by omega) hv (fun w m hw hm hp a ha => by
        by_cases e : w = i
        · subst e
          rw [hbt.mpr ⟨m, hm, hp⟩] at hb; cases hb
        · exact hd w m (by omega) hm hp a ha)
      refine ⟨ju', jb', rd', fr', ?_, q2, q3⟩
      simp (disch := omega) only [lI, nI_leI, if_neg, ck_n, nm_n, nI_clamp, bt_shrE, hb, if_true, nI_add]
      exact q1
    · obtain ⟨m0, hm0, hp0⟩ := hbt.mp hb
      obtain ⟨jb1, g1, g2⟩ := gather_n (r_co := r_co) (bu := jb) (MC_mq h hc m0) hc (show i < 16 by omega) hp0
      obtain ⟨ju1, rd1, fr1, p1, p2, p3⟩ := leaveBy6_n (K := K) (r_co := r_co) (cn := cn) (rd := rd) (fr := fr) (R := Rch K cn L) hL hJ hv hc hj (fun b hb s k dd he => ((MC_mq h hc m0) b hb s k dd he).2.2.2.2.2.2.2) g2 (fun c j a hr => (Rch_V hL hr).2.2.1) (fun a ha => (Rch_V hL (hX a ha)).2.2) (fun a ha hf => ⟨j, a, m0, hX a ha, hm0, rfl, hf⟩) (fun a ha hf hh => Rch_s (hX a ha) hm0 hf hh) 3 0 5000 X (by omega) (by omega) (fun a => ⟨fun z => ⟨z, fun u hu => by omega⟩, fun z => z.1⟩)
      obtain ⟨ju', jb', rd', fr', q1, q2, q3⟩ := leave_lp hL (r_co := r_co) (ch := ch) h hJ hc hj hch hX d (i + 1) n ju1 jb1 rd1 fr1 (by omega) (by omega) p2.2.2.2.2.2.2.1 (fun w m hw hm hp a ha => by
        by_cases e : w = i
        · subst e
          rw [PT_eq hp hp0]
          exact p3 a ha
        · exact DN_mono p2 (hd w m (by omega) hm hp a ha))
      refine ⟨ju', jb', rd', fr', ?_, GR_trans p2 q2, q3⟩
      have p1' : f_Ju_leaveBy r_co cn ju jb1 rd fr ub wr (nI c) (nI j) X = some (ju1, rd1, fr1) := p1
      simp (disch := omega) only [lI, nI_leI, if_neg, ck_n, nm_n, nI_clamp, bt_shrE, hb, Bool.true_eq_false, not_false_eq_true, if_false, nI_add, g1, p1', Option.bind_some]
      exact q1
theorem leave_n {B : Nat} {K : KT} {L : Nat → Nat} (hL : LJ L) {r_co ta gu so cn de mc ch : Nat → Int32} (h : RC B K ta gu so cn de mc) (hB : r_co 0 = nI B) {ub wr : Nat → Int64} (hJ : JR L ub wr) {c j : Nat} (hc : c < 64) (hj : j < 9) (hch : CHc K c (ch c)) {X : Int64} (hX : ∀ a, bl X a = true → Rch K cn L c j a) {ju jb : Nat → Int32} {rd fr : Nat → Int64} (hv : VBv (Wrg K cn L) (ju 8) (ju 9)) : ∃ ju' jb' rd' fr', f_Ju_leave r_co so cn de ju jb ch rd fr ub wr (nI c) (nI j) X = some (ju', jb', rd', fr') ∧ GR (Rch K cn L) (Wrg K cn L) ju rd fr ju' rd' fr' ∧ ∀ m, m < 16 → ∀ a, bl X a = true → DN K cn L (mq K c m) ju' rd' c j a := by
  obtain ⟨ju', jb', rd', fr', q1, q2, q3⟩ := leave_lp hL (r_co := r_co) (ch := ch) h hJ hc hj hch hX 16 0 5000 ju jb rd fr (by omega) (by omega) hv (fun w m hw => by omega)
  refine ⟨ju', jb', rd', fr', q1, q2, fun m hm a ha => ?_⟩
  obtain ⟨w, k1, _, k3⟩ := made_w h hB hc m
  exact q3 w m k1 hm k3 a ha
-- ===== a sweep =====
def SI (K : KT) (cn : Nat → Int32) (L : Nat → Nat) (ju : Nat → Int32) (rd fr : Nat → Int64) : Prop :=
  (∀ p, p < 576 → ∀ a, bl (rd p) a = true → RP (Rch K cn L) p a) ∧ (∀ p, p < 576 → ∀ a, bl (fr p) a = true → bl (rd p) a = true) ∧ VBv (Wrg K cn L) (ju 8) (ju 9) ∧ (∀ p, p < 576 → ∀ a, bl (rd p) a = true → bl (fr p) a = false → ∀ m, m < 16 → DN K cn L (mq K (p / 9) m) ju rd (p / 9) (p % 9) a) ∧ bl (rd 0) 0 = true
def SW (rd0 : Nat → Int64) (ju : Nat → Int32) (rd fr : Nat → Int64) (i : Nat) : Prop :=
  (∀ p a, bl (rd0 p) a = true → bl (rd p) a = true) ∧ ((ju 7 = nI 0 ∧ ∀ p, p < i → ∀ a, bl (fr p) a = false) ∨ (ju 7 = nI 1 ∧ ∃ p a, p < 576 ∧ a < 40 ∧ bl (rd p) a = true ∧ bl (rd0 p) a = false))
theorem sweep_lp {B : Nat} {K : KT} {L : Nat → Nat} (hL : LJ L) {r_co ta gu so cn de mc ch : Nat → Int32} (h : RC B K ta gu so cn de mc) (hB : r_co 0 = nI B) {ub wr : Nat → Int64} (hJ : JR L ub wr) (hch : ∀ c, c < 64 → CHc K c (ch c)) (rec : (Nat → Int32) → (Nat → Int32) → (Nat → Int32) → (Nat → Int32) → (Nat → Int32) → (Nat → Int32) → (Nat → Int32) → (Nat → Int32) → (Nat → Int32) → (Nat → Int64) → (Nat → Int64) → (Nat → Int64) → (Nat → Int64) → Int32 → Option (Int32 × (Nat → Int32) × (Nat → Int32) × (Nat → Int32) × (Nat → Int64) × (Nat → Int64))) (rd0 : Nat → Int64) (v : Nat) : ∀ (d i n : Nat) (ju jb : Nat → Int32) (rd fr : Nat → Int64), i + d = 576 → d < n → SI K cn L ju rd fr → SW rd0 ju rd fr i → ∃ ju' jb' rd' fr', f_Ju_leastWrongCycle_27 rec n r_co ta gu so cn de ju jb ch rd fr ub wr (nI v) (nI i) = rec r_co ta gu so cn de ju' jb' ch rd' fr' ub wr (nI (v + 1)) ∧ SI K cn L ju' rd' fr' ∧ SW rd0 ju' rd' fr' 576
  | 0, i, n + 1, ju, jb, rd, fr, hi, hn, hS, hW => by
    have e : i = 576 := by omega
    subst e
    refine ⟨ju, jb, rd, fr, ?_, hS, hW⟩
    rw [f_Ju_leastWrongCycle_27]; simp (disch := omega) only [lI, nI_add, pk_mul, nI_leI, nI_ltI, nI_eq, ck_n, nm_n, nI_clamp, Option.bind_some, if_pos, if_neg, bk_n0, bk_n1, nI_sub, upd_s, mi_e, mi_ne, mi_ne2, mi_lt, mi_le, mi_nle, mi_nlt, mi_s, bt_shrE, bit_e, true_and, and_true, if_true, if_false, ne_eq, not_true_eq_false, not_false_eq_true, Bool.false_eq_true, Bool.true_eq_false, reduceCtorEq]
  | d + 1, i, n + 1, ju, jb, rd, fr, hi, hn, hS, hW => by
    have hi576 : i < 576 := by omega
    rw [f_Ju_leastWrongCycle_27]
    unfold f_Ju_leastWrongCycle_67
    by_cases e0 : fr i = 0
    · obtain ⟨ju', jb', rd', fr', q1, q2, q3⟩ := sweep_lp hL h hB hJ hch rec rd0 v d (i + 1) n ju jb rd fr (by omega) (by omega) hS ⟨hW.1, by
        rcases hW.2 with ⟨z1, z2⟩ | z
        · refine Or.inl ⟨z1, fun p hp a => ?_⟩
          by_cases e : p = i
          · subst e; rw [e0]; exact bl_zero a
          · exact z2 p (by omega) a
        · exact Or.inr z⟩
      refine ⟨ju', jb', rd', fr', ?_, q2, q3⟩
      have := (lgc_eq (fr i) 0).mpr e0
      rw [if_neg (show ¬ (576 : Int32) ≤ nI i from nI_ge (b := 576) (by omega) (by omega)), ck_n hi576 (by omega), nm_n, nI_clamp (by omega), if_pos this, nm_n, nI_1]
      exact q1
    · obtain ⟨s1, s2, s3, s4, s5⟩ := hS
      obtain ⟨w1, w2⟩ := hW
      have hfz : ∀ p a, bl (vp_updL fr i 0 p) a = (bl (fr p) a && !decide (p = i)) := fun p a => by
        by_cases e : p = i
        · subst e; rw [updL_s, bl_zero]; simp
        · rw [updL_n e]; simp [e]
      obtain ⟨ju1, jb1, rd1, fr1, l1, l2, l3⟩ := leave_n (cn := cn) (ch := ch) (jb := jb) (rd := rd) (fr := vp_updL fr i 0) hL h hB hJ (c := i / 9) (j := i % 9) (by omega) (Nat.mod_lt _ (by omega)) (hch (i / 9) (by omega)) (X := fr i) (fun a ha => s1 i hi576 a (s2 i hi576 a ha)) s3
      obtain ⟨g1, g2, g3, g4, g5, g6, g7, g8⟩ := l2
      have hSI : SI K cn L ju1 rd1 fr1 := by
        refine ⟨fun p hp a ha => ?_, fun p hp a ha => ?_, g7, fun p hp a h1 h2 m hm => ?_, g1 0 0 s5⟩
        · rcases g4 p hp a ha with z | z
          · exact s1 p hp a z
          · exact z
        · rcases g5 p a ha with z | z
          · rw [hfz, Bool.and_eq_true] at z
            exact g1 p a (s2 p hp a z.1)
          · exact z
        · have hrd : bl (rd p) a = true := by
            rcases g3 p a h1 with z | z
            · exact z
            · rw [h2] at z; cases z
          cases hf : bl (fr p) a
          · exact DN_mono ⟨g1, g2, g3, g4, g5, g6, g7, g8⟩ (s4 p hp a hrd hf m hm)
          · by_cases e : p = i
            · subst e; exact l3 m hm a hf
            · have := g2 p a (by rw [hfz, hf]; simp [e])
              rw [h2] at this; cases this
      have hSW : SW rd0 ju1 rd1 fr1 (i + 1) := by
        refine ⟨fun p a ha => g1 p a (w1 p a ha), ?_⟩
        rcases g8 with ⟨z1, z2⟩ | ⟨z1, p, a, z2, z3, z4, z5⟩
        · rcases w2 with ⟨y1, y2⟩ | ⟨y1, p, a, y2, y3, y4, y5⟩
          · refine Or.inl ⟨z1.trans y1, fun p hp a => ?_⟩
            rw [(z2 p).1, hfz]
            by_cases e : p = i
            · simp [e]
            · rw [y2 p (by omega) a]; rfl
          · exact Or.inr ⟨z1.trans y1, p, a, y2, y3, g1 p a y4, y5⟩
        · refine Or.inr ⟨z1, p, a, z2, z3, z4, ?_⟩
          cases y : bl (rd0 p) a
          · rfl
          · rw [w1 p a y] at z5; cases z5
      obtain ⟨ju', jb', rd', fr', q1, q2, q3⟩ := sweep_lp hL h hB hJ hch rec rd0 v d (i + 1) n ju1 jb1 rd1 fr1 (by omega) (by omega) hSI hSW
      refine ⟨ju', jb', rd', fr', ?_, q2, q3⟩
      rw [if_neg (show ¬ (576 : Int32) ≤ nI i from nI_ge (b := 576) (by omega) (by omega)), ck_n hi576 (by omega), nm_n, nI_clamp (by omega), if_neg (fun z => e0 ((lgc_eq _ _).mp z)), ck_n hi576 (by omega), show (9 : Int32) = nI 9 from rfl, pk_rem (by omega) (by omega) (by omega), pk_div (by omega) (by omega) (by omega), l1, Option.bind_some, nm_n, nI_1]
      exact q1
