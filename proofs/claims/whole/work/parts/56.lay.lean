-- ===== moves laid on the lowest bus =====
def LM (K : KT) (c : Nat) : MT := fun b => match K c b with | none => none | some (_, s, k, d) => some (s, k, d)
def UU (B : Nat) (K : KT) (U : Nat → Nat) : Prop := ∀ c, c < 64 → U c ≤ B ∧ ∀ b, b < 4 → (K c b).isSome = decide (b < U c)
theorem KM_mi {B : Nat} {K : KT} {mc : Nat → Int32} (hM : KM K mc) (hV : KV B K) {c b : Nat} (hc : c < 64) (hb : b < 4) : (mc (16 * c + 4 * b) = mi) = ((K c b).isSome = false) := by
  obtain ⟨q1, q2⟩ := hM c hc b hb
  rcases hk : K c b with _ | ⟨g, s, k, d⟩
  · rw [q1 hk]; simp; rfl
  · have hg := (hV c hc b hb g s k d hk).2.1
    rw [(q2 g s k d hk).1, mi_ne (by omega)]; simp
theorem free_lp {B : Nat} (hB : BV B) {K : KT} {U : Nat → Nat} {mo mc : Nat → Int32} (h1 : mo 1 = nI B) (hM : KM K mc) (hV : KV B K) (hU : UU B K U) {c : Nat} (hc : c < 64) : ∀ (d i n : Nat), i + d = B → d < n → f_Mo_busesFree_4 n mo mc (nI c) (nI (i - U c)) (nI i) = some (nI (B - U c))
  | 0, i, n + 1, hi, hn => by
    have := hB.2
    have e : i = B := by omega
    rw [f_Mo_busesFree_4]; simp (disch := omega) only [lI, nI_add, pk_mul, nI_leI, nI_ltI, nI_eq, ck_n, nm_n, nI_clamp, Option.bind_some, if_pos, if_neg, bk_n0, bk_n1, nI_sub, upd_s, mi_e, mi_ne, mi_ne2, mi_lt, mi_le, mi_nle, mi_nlt, mi_s, bt_shrE, bit_e, true_and, and_true, if_true, if_false, ne_eq, not_true_eq_false, not_false_eq_true, Bool.false_eq_true, Bool.true_eq_false, reduceCtorEq, h1]; rw [e]
  | d + 1, i, n + 1, hi, hn => by
    have hB4 := hB.2
    have ih := free_lp hB h1 hM hV hU hc d (i + 1) n (by omega) (by omega)
    have hk := KM_mi hM hV hc (show i < 4 by omega)
    rw [(hU c hc).2 i (by omega)] at hk
    rw [f_Mo_busesFree_4]
    unfold f_Mo_busesFree_34
    by_cases e : i < U c
    · rw [decide_eq_true e] at hk
      have e1 : i - U c = 0 := by omega
      have e2 : i + 1 - U c = 0 := by omega
      rw [e2] at ih
      rw [e1]
      simp (disch := omega) only [lI, nI_add, pk_mul, nI_leI, nI_ltI, nI_eq, ck_n, nm_n, nI_clamp, Option.bind_some, if_pos, if_neg, bk_n0, bk_n1, nI_sub, upd_s, mi_e, mi_ne, mi_ne2, mi_lt, mi_le, mi_nle, mi_nlt, mi_s, bt_shrE, bit_e, true_and, and_true, if_true, if_false, ne_eq, not_true_eq_false, not_false_eq_true, Bool.false_eq_true, Bool.true_eq_false, reduceCtorEq, h1, at_n, hk, ih]
    · rw [decide_eq_false e] at hk
      have e2 : i + 1 - U c = i - U c + 1 := by omega
      rw [e2] at ih
      simp (disch := omega) only [lI, nI_add, pk_mul, nI_leI, nI_ltI, nI_eq, ck_n, nm_n, nI_clamp, Option.bind_some, if_pos, if_neg, bk_n0, bk_n1, nI_sub, upd_s, mi_e, mi_ne, mi_ne2, mi_lt, mi_le, mi_nle, mi_nlt, mi_s, bt_shrE, bit_e, true_and, and_true, if_true, if_false, ne_eq, not_true_eq_false, not_false_eq_true, Bool.false_eq_true, Bool.true_eq_false, reduceCtorEq, h1, at_n, hk, ih]
theorem free_n {B : Nat} (hB : BV B) {K : KT} {U : Nat → Nat} {mo mc : Nat → Int32} (h1 : mo 1 = nI B) (hM : KM K mc) (hV : KV B K) (hU : UU B K U) {c : Nat} (hc : c < 64) : f_Mo_busesFree mo mc (nI c) = some (nI (B - U c)) := by
  have := hB.2
  have h := free_lp hB h1 hM hV hU hc B 0 5000 (by omega) (by omega)
  rw [Nat.zero_sub] at h
  exact h
theorem mlay_lp {B : Nat} (hB : BV B) {K : KT} {U : Nat → Nat} {mo mc : Nat → Int32} (hM : KM K mc) (hV : KV B K) (hU : UU B K U) {c : Nat} (hc : c < 64) (hu : U c < B) (s k d : Int32) : ∀ (e i n : Nat), i + e = U c → e < n → f_Mo_lay_3 n mo mc (nI c) s k d (nI i) = some (upd (upd (upd (upd mc (16 * c + 4 * U c) (nI 0)) (16 * c + 4 * U c + 1) s) (16 * c + 4 * U c + 2) k) (16 * c + 4 * U c + 3) d)
  | 0, i, n + 1, hi, hn => by
    have hB4 := hB.2
    have e : i = U c := by omega
    subst e
    have hk := KM_mi hM hV hc (show U c < 4 by omega)
    rw [(hU c hc).2 (U c) (by omega), decide_eq_false (by omega)] at hk
    rw [f_Mo_lay_3]; simp (disch := omega) only [lI, nI_add, pk_mul, nI_leI, nI_ltI, nI_eq, ck_n, nm_n, nI_clamp, Option.bind_some, if_pos, if_neg, bk_n0, bk_n1, nI_sub, upd_s, mi_e, mi_ne, mi_ne2, mi_lt, mi_le, mi_nle, mi_nlt, mi_s, bt_shrE, bit_e, true_and, and_true, if_true, if_false, ne_eq, not_true_eq_false, not_false_eq_true, Bool.false_eq_true, Bool.true_eq_false, reduceCtorEq, at_n, hk]
  | e + 1, i, n + 1, hi, hn => by
    have hB4 := hB.2
    have hk := KM_mi hM hV hc (show i < 4 by omega)
    rw [(hU c hc).2 i (by omega), decide_eq_true (by omega)] at hk
    rw [f_Mo_lay_3]; simp (disch := omega) only [lI, nI_add, pk_mul, nI_leI, nI_ltI, nI_eq, ck_n, nm_n, nI_clamp, Option.bind_some, if_pos, if_neg, bk_n0, bk_n1, nI_sub, upd_s, mi_e, mi_ne, mi_ne2, mi_lt, mi_le, mi_nle, mi_nlt, mi_s, bt_shrE, bit_e, true_and, and_true, if_true, if_false, ne_eq, not_true_eq_false, not_false_eq_true, Bool.false_eq_true, Bool.true_eq_false, reduceCtorEq, at_n, hk, mlay_lp hB hM hV hU hc hu s k d e (i + 1) n (by omega) (by omega)]
theorem KM_put {K : KT} {mc : Nat → Int32} (hM : KM K mc) {c b : Nat} (hc : c < 64) (hb : b < 4) (g s : Nat) (k : Int32) (d : Nat) : KM (kset K c b (some (g, s, k, d))) (upd (upd (upd (upd mc (16 * c + 4 * b) (nI g)) (16 * c + 4 * b + 1) (nI s)) (16 * c + 4 * b + 2) k) (16 * c + 4 * b + 3) (nI d)) := fun c' hc' b' hb' => by
  by_cases hh : c' = c ∧ b' = b
  · obtain ⟨rfl, rfl⟩ := hh
    rw [kset_s]
    refine ⟨fun e => (by cases e), fun g' s' k' d' he => ?_⟩
    cases he
    refine ⟨?_, ?_, ?_, ?_⟩
    · rw [upd_n (by omega), upd_n (by omega), upd_n (by omega), upd_s]
    · rw [upd_n (by omega), upd_n (by omega), upd_s]
    · rw [upd_n (by omega), upd_s]
    · rw [upd_s]
  · rw [kset_n K _ hh]
    obtain ⟨q1, q2⟩ := hM c' hc' b' hb'
    refine ⟨fun e => ?_, fun g' s' k' d' he => ?_⟩
    · rw [upd_n (by omega), upd_n (by omega), upd_n (by omega), upd_n (by omega)]
      exact q1 e
    · obtain ⟨r1, r2, r3, r4⟩ := q2 g' s' k' d' he
      refine ⟨?_, ?_, ?_, ?_⟩
      · rw [upd_n (by omega), upd_n (by omega), upd_n (by omega), upd_n (by omega)]; exact r1
      · rw [upd_n (by omega), upd_n (by omega), upd_n (by omega), upd_n (by omega)]; exact r2
      · rw [upd_n (by omega), upd_n (by omega), upd_n (by omega), upd_n (by omega)]; exact r3
      · rw [upd_n (by omega), upd_n (by omega), upd_n (by omega), upd_n (by omega)]; exact r4
theorem KV_put {B : Nat} {K : KT} (hV : KV B K) {c b : Nat} (hb : b < B) {g s d : Nat} (k : Int32) (hg : g ≤ 8) (hs : s ≤ 11) (hd : d ≤ 25) : KV B (kset K c b (some (g, s, k, d))) := fun c' hc' b' hb' g' s' k' d' he => by
  by_cases hh : c' = c ∧ b' = b
  · obtain ⟨rfl, rfl⟩ := hh
    rw [kset_s] at he
    cases he
    exact ⟨hb, hg, hs, hd⟩
  · rw [kset_n K _ hh] at he
    exact hV c' hc' b' hb' g' s' k' d' he
def bump (U : Nat → Nat) (c : Nat) : Nat → Nat := fun c' => if c' = c then U c' + 1 else U c'
theorem bump_s (U : Nat → Nat) (c : Nat) : bump U c c = U c + 1 := if_pos rfl
theorem bump_n (U : Nat → Nat) {c c' : Nat} (h : c' ≠ c) : bump U c c' = U c' := if_neg h
theorem UU_put {B : Nat} {K : KT} {U : Nat → Nat} (hU : UU B K U) {c : Nat} (hu : U c < B) (q : Nat × Nat × Int32 × Nat) : UU B (kset K c (U c) (some q)) (bump U c) := fun c' hc' => by
  by_cases e : c' = c
  · subst e
    rw [bump_s]
    refine ⟨by omega, fun b hb => ?_⟩
    by_cases e2 : b = U c'
    · subst e2
      rw [kset_s]
      simp
    · rw [kset_n K _ (fun h => e2 h.2), (hU c' hc').2 b hb]
      by_cases e3 : b < U c'
      · rw [decide_eq_true e3, decide_eq_true (by omega)]
      · rw [decide_eq_false e3, decide_eq_false (by omega)]
  · rw [bump_n U e]
    refine ⟨(hU c' hc').1, fun b hb => ?_⟩
    rw [kset_n K _ (fun h => e h.1)]
    exact (hU c' hc').2 b hb
/-- the model lays a move -/
theorem mlay_n {B : Nat} (hB : BV B) {K : KT} {U : Nat → Nat} {mo mc : Nat → Int32} (hM : KM K mc) (hV : KV B K) (hU : UU B K U) {c : Nat} (hc : c < 64) (hu : U c < B) {s d : Nat} (hs : s ≤ 11) (hd : d ≤ 25) (k : Int32) : ∃ mc', f_Mo_lay mo mc (nI c) (nI s) k (nI d) = some mc' ∧ KM (kset K c (U c) (some (0, s, k, d))) mc' ∧ KV B (kset K c (U c) (some (0, s, k, d))) ∧ UU B (kset K c (U c) (some (0, s, k, d))) (bump U c) := by
  have hB4 := hB.2
  exact ⟨_, mlay_lp hB hM hV hU hc hu (nI s) k (nI d) (U c) 0 5000 (by omega) (by omega), KM_put hM hc (by omega) 0 s k d, KV_put hV hu k (by omega) hs hd, UU_put hU hu _⟩
theorem KD_put {K : KT} {ta gu so cn de : Nat → Int32} (hD : KD K ta gu so cn de) {c b : Nat} (hc : c < 64) (hb4 : b < 4) {g s d : Nat} (k : Int32) : KD (kset K c b (some (g, s, k, d))) (upd ta c ((ta c) ||| ((1 : Int32) <<< (nI b &&& 31)))) (upd gu (c * 4 + b) (nI g)) (upd so (c * 4 + b) (nI s)) (upd cn (c * 4 + b) k) (upd de (c * 4 + b) (nI d)) := fun c' hc' => by
  obtain ⟨⟨t, ht, h1, h2⟩, h3⟩ := hD c' hc'
  refine ⟨?_, fun b' hb' g' s' k' d' he => ?_⟩
  · by_cases hcc : c' = c
    · subst hcc
      obtain ⟨q1, q2, q3⟩ := bit_or t ht b hb4
      refine ⟨_, q2, by rw [upd_s, h1]; exact q1, fun b' hb' => ?_⟩
      rw [q3 b' hb', h2 b' hb']
      by_cases hbb : b' = b
      · subst hbb; simp [kset_s]
      · rw [kset_n K _ (fun e => hbb e.2)]; simp [hbb]
    · exact ⟨t, ht, by rw [upd_n hcc]; exact h1, fun b' hb' => by rw [kset_n K _ (fun e => hcc e.1)]; exact h2 b' hb'⟩
  · by_cases hh : c' = c ∧ b' = b
    · obtain ⟨rfl, rfl⟩ := hh
      rw [kset_s] at he
      cases he
      simp only [upd_s]
      exact ⟨trivial, trivial, trivial, trivial⟩
    · rw [kset_n K _ hh] at he
      have hne : c' * 4 + b' ≠ c * 4 + b := by omega
      simp only [upd_n hne]
      exact h3 b' hb' g' s' k' d' he
theorem low_lp {B : Nat} (hB : BV B) {K : KT} {U : Nat → Nat} {r_co ta gu so cn de : Nat → Int32} (h0 : r_co 0 = nI B) (hD : KD K ta gu so cn de) (hU : UU B K U) {c : Nat} (hc : c < 64) (hu : U c < B) (s k d : Int32) : ∀ (e i n : Nat), i + e = U c → e < n → f_Co_putOnLowestBus_3 n r_co ta gu so cn de (nI c) s k d (nI i) = f_Co_put r_co ta gu so cn de (nI c) (nI (U c)) (nI 0) s k d
  | 0, i, n + 1, hi, hn => by
    have hB4 := hB.2
    have e : i = U c := by omega
    subst e
    have ht := (KD_bt hD hc).1 (U c) (by omega)
    rw [(hU c hc).2 (U c) (by omega), decide_eq_false (by omega)] at ht
    have hz : f_Co_isTaken r_co ta (nI c) (nI (U c)) = some 0 := by
      unfold f_Co_isTaken; simp (disch := omega) only [lI, nI_add, pk_mul, nI_leI, nI_ltI, nI_eq, ck_n, nm_n, nI_clamp, Option.bind_some, if_pos, if_neg, bk_n0, bk_n1, nI_sub, upd_s, mi_e, mi_ne, mi_ne2, mi_lt, mi_le, mi_nle, mi_nlt, mi_s, bt_shrE, bit_e, true_and, and_true, if_true, if_false, ne_eq, not_true_eq_false, not_false_eq_true, Bool.false_eq_true, Bool.true_eq_false, reduceCtorEq, ht]
    rw [f_Co_putOnLowestBus_3, h0, if_neg (nI_ge hu (by omega)), hz, put_n hc (by omega), put_n hc (by omega)]
    rfl
  | e + 1, i, n + 1, hi, hn => by
    have hB4 := hB.2
    have ht := (KD_bt hD hc).1 i (by omega)
    rw [(hU c hc).2 i (by omega), decide_eq_true (by omega)] at ht
    have hz : f_Co_isTaken r_co ta (nI c) (nI i) = some 1 := by
      unfold f_Co_isTaken; simp (disch := omega) only [lI, nI_add, pk_mul, nI_leI, nI_ltI, nI_eq, ck_n, nm_n, nI_clamp, Option.bind_some, if_pos, if_neg, bk_n0, bk_n1, nI_sub, upd_s, mi_e, mi_ne, mi_ne2, mi_lt, mi_le, mi_nle, mi_nlt, mi_s, bt_shrE, bit_e, true_and, and_true, if_true, if_false, ne_eq, not_true_eq_false, not_false_eq_true, Bool.false_eq_true, Bool.true_eq_false, reduceCtorEq, ht]
    rw [f_Co_putOnLowestBus_3]
    simp (disch := omega) only [lI, nI_add, pk_mul, nI_leI, nI_ltI, nI_eq, ck_n, nm_n, nI_clamp, Option.bind_some, if_pos, if_neg, bk_n0, bk_n1, nI_sub, upd_s, mi_e, mi_ne, mi_ne2, mi_lt, mi_le, mi_nle, mi_nlt, mi_s, bt_shrE, bit_e, true_and, and_true, if_true, if_false, ne_eq, not_true_eq_false, not_false_eq_true, Bool.false_eq_true, Bool.true_eq_false, reduceCtorEq, h0, hz]
    exact low_lp hB h0 hD hU hc hu s k d e (i + 1) n (by omega) (by omega)
theorem low_n {B : Nat} (hB : BV B) {K : KT} {U : Nat → Nat} {r_co ta gu so cn de : Nat → Int32} (h0 : r_co 0 = nI B) (hD : KD K ta gu so cn de) (hU : UU B K U) {c : Nat} (hc : c < 64) (hu : U c < B) (s d : Nat) (k : Int32) : ∃ ta' gu' so' cn' de', f_Co_putOnLowestBus r_co ta gu so cn de (nI c) (nI s) k (nI d) = some (ta', gu', so', cn', de') ∧ KD (kset K c (U c) (some (0, s, k, d))) ta' gu' so' cn' de' ∧ UU B (kset K c (U c) (some (0, s, k, d))) (bump U c) := by
  have hB4 := hB.2
  have e := low_lp hB h0 hD hU hc hu (nI s) k (nI d) (U c) 0 5000 (by omega) (by omega)
  rw [put_n hc (by omega)] at e
  exact ⟨_, _, _, _, _, e, KD_put hD hc (by omega) k, UU_put hU hu _⟩
-- ===== registers read in a cycle =====
theorem rR24 {B : Nat} (hB : BV B) {K : KT} {mo mopn mc : Nat → Int32} (h1 : mo 1 = nI B) (hM : KM K mc) (hV : KV B K) {c : Nat} (hc : c < 64) (f : (Nat → Int32) → (Nat → Int32) → (Nat → Int32) → Int32 → Int32 → Int32 → Int32 → Option Int32) (v2 : Int32) {m k : Nat} (hk : k < 8) : ∀ (d i n : Nat) (z : Bool), i + d = B → d < n → f_Mo_registersRead_24 f n mo mopn mc (nI c) v2 (nI m) (nI k) (b2i z) (nI i) = f mo mopn mc (nI c) v2 (nI (m + if (z || anyF (fun q => q.1 == k) (LM K c) i d) = true then 1 else 0)) (nI (k + 1))
  | 0, i, n + 1, z, hi, hn => by
    have hB4 := hB.2
    rw [f_Mo_registersRead_24]
    unfold f_Mo_registersRead_97 anyF
    cases z
    · simp (disch := omega) only [lI, nI_add, pk_mul, nI_leI, nI_ltI, nI_eq, ck_n, nm_n, nI_clamp, Option.bind_some, if_pos, if_neg, bk_n0, bk_n1, nI_sub, upd_s, mi_e, mi_ne, mi_ne2, mi_lt, mi_le, mi_nle, mi_nlt, mi_s, bt_shrE, bit_e, true_and, and_true, if_true, if_false, ne_eq, not_true_eq_false, not_false_eq_true, Bool.false_eq_true, Bool.true_eq_false, reduceCtorEq, h1, b2i_0, Bool.or_false]
    · simp (disch := omega) only [lI, nI_add, pk_mul, nI_leI, nI_ltI, nI_eq, ck_n, nm_n, nI_clamp, Option.bind_some, if_pos, if_neg, bk_n0, bk_n1, nI_sub, upd_s, mi_e, mi_ne, mi_ne2, mi_lt, mi_le, mi_nle, mi_nlt, mi_s, bt_shrE, bit_e, true_and, and_true, if_true, if_false, ne_eq, not_true_eq_false, not_false_eq_true, Bool.false_eq_true, Bool.true_eq_false, reduceCtorEq, h1, b2i_0, Bool.true_or]
  | d + 1, i, n + 1, z, hi, hn => by
    have hB4 := hB.2
    have ih := fun z => rR24 hB h1 hM hV hc f v2 (m := m) hk (mopn := mopn) d (i + 1) n z (by omega) (by omega)
    have iht := ih true
    have ihf := ih false
    rw [b2i_t] at iht
    rw [b2i_f] at ihf
    have hk2 := KM_mi hM hV hc (show i < 4 by omega)
    rw [f_Mo_registersRead_24]
    unfold f_Mo_registersRead_71 f_Mo_registersRead_75 f_Mo_registersRead_78
    cases z
    · rcases hM2 : K c i with _ | ⟨g, s, kk, dd⟩
      · rw [hM2] at hk2
        have hl : LM K c i = none := by simp [LM, hM2]
        rw [anyF_none hl]
        simp (disch := omega) only [lI, nI_add, pk_mul, nI_leI, nI_ltI, nI_eq, ck_n, nm_n, nI_clamp, Option.bind_some, if_pos, if_neg, bk_n0, bk_n1, nI_sub, upd_s, mi_e, mi_ne, mi_ne2, mi_lt, mi_le, mi_nle, mi_nlt, mi_s, bt_shrE, bit_e, true_and, and_true, if_true, if_false, ne_eq, not_true_eq_false, not_false_eq_true, Bool.false_eq_true, Bool.true_eq_false, reduceCtorEq, h1, b2i_0, at_n, hk2, Option.isSome_none, ihf]
      · rw [hM2] at hk2
        have hl : LM K c i = some (s, kk, dd) := by simp [LM, hM2]
        obtain ⟨m1, m2, m3, m4⟩ := (hM c hc i (by omega)).2 g s kk dd hM2
        have hs := (hV c hc i (by omega) g s kk dd hM2).2.2.1
        rw [anyF_some hl]
        by_cases e : s = k
        · simp (disch := omega) only [lI, nI_add, pk_mul, nI_leI, nI_ltI, nI_eq, ck_n, nm_n, nI_clamp, Option.bind_some, if_pos, if_neg, bk_n0, bk_n1, nI_sub, upd_s, mi_e, mi_ne, mi_ne2, mi_lt, mi_le, mi_nle, mi_nlt, mi_s, bt_shrE, bit_e, true_and, and_true, if_true, if_false, ne_eq, not_true_eq_false, not_false_eq_true, Bool.false_eq_true, Bool.true_eq_false, reduceCtorEq, h1, b2i_0, at_n, hk2, Option.isSome_some, m2, iht]
          simp [e]
        · simp (disch := omega) only [lI, nI_add, pk_mul, nI_leI, nI_ltI, nI_eq, ck_n, nm_n, nI_clamp, Option.bind_some, if_pos, if_neg, bk_n0, bk_n1, nI_sub, upd_s, mi_e, mi_ne, mi_ne2, mi_lt, mi_le, mi_nle, mi_nlt, mi_s, bt_shrE, bit_e, true_and, and_true, if_true, if_false, ne_eq, not_true_eq_false, not_false_eq_true, Bool.false_eq_true, Bool.true_eq_false, reduceCtorEq, h1, b2i_0, at_n, hk2, Option.isSome_some, m2, ihf]
          simp [beq_false_of_ne e]
    · simp (disch := omega) only [lI, nI_add, pk_mul, nI_leI, nI_ltI, nI_eq, ck_n, nm_n, nI_clamp, Option.bind_some, if_pos, if_neg, bk_n0, bk_n1, nI_sub, upd_s, mi_e, mi_ne, mi_ne2, mi_lt, mi_le, mi_nle, mi_nlt, mi_s, bt_shrE, bit_e, true_and, and_true, if_true, if_false, ne_eq, not_true_eq_false, not_false_eq_true, Bool.false_eq_true, Bool.true_eq_false, reduceCtorEq, h1, b2i_0, iht, Bool.true_or]
theorem LM_ge {B : Nat} {K : KT} (hV : KV B K) {c : Nat} (hc : c < 64) {b : Nat} (h1 : B ≤ b) (h2 : b < 4) : LM K c b = none := by
  unfold LM
  rcases hk : K c b with _ | ⟨g, s, k, d⟩
  · rfl
  · have := (hV c hc b h2 g s k d hk).1; omega
theorem anyF_B {P : Nat × Int32 × Nat → Bool} {B : Nat} (hB : BV B) {K : KT} (hV : KV B K) {c : Nat} (hc : c < 64) : anyF P (LM K c) 0 B = anyM P (LM K c) 4 := by
  rw [← anyF_4]
  rcases (show B = 2 ∨ B = 3 ∨ B = 4 by have := hB.1; have := hB.2; omega) with rfl | rfl | rfl
  · simp [anyF, LM_ge hV hc (b := 2) (by omega) (by omega), LM_ge hV hc (b := 3) (by omega) (by omega)]
  · simp [anyF, LM_ge hV hc (b := 3) (by omega) (by omega)]
  · rfl
theorem rR5 {B : Nat} (hB : BV B) {K : KT} {O : OT} {N : Nat} {ki tg fi se oc mo mopn mc : Nat → Int32} (hO : OL O N ki tg fi se oc mopn) {j : Nat} (hj : j < N) (h1 : mo 1 = nI B) (hM : KM K mc) (hV : KV B K) {c : Nat} (hc : c < 64) : ∀ (d i n : Nat), i + d = 8 → d < n → f_Mo_registersRead_5 n mo mopn mc (nI c) (nI j) (nI (cnt (fun k => RRO O j k || anyM (fun q => q.1 == k) (LM K c) 4) i)) (nI i) = some (nI (cnt (fun k => RRO O j k || anyM (fun q => q.1 == k) (LM K c) 4) 8))
  | 0, i, n + 1, hi, hn => by
    have e : i = 8 := by omega
    subst e
    rw [f_Mo_registersRead_5]; simp (disch := omega) only [lI, nI_add, pk_mul, nI_leI, nI_ltI, nI_eq, ck_n, nm_n, nI_clamp, Option.bind_some, if_pos, if_neg, bk_n0, bk_n1, nI_sub, upd_s, mi_e, mi_ne, mi_ne2, mi_lt, mi_le, mi_nle, mi_nlt, mi_s, bt_shrE, bit_e, true_and, and_true, if_true, if_false, ne_eq, not_true_eq_false, not_false_eq_true, Bool.false_eq_true, Bool.true_eq_false, reduceCtorEq]
  | d + 1, i, n + 1, hi, hn => by
    have hB4 := hB.2
    have ih := rR5 hB hO hj h1 hM hV hc d (i + 1) n (by omega) (by omega)
    rw [f_Mo_registersRead_5]
    simp (disch := omega) only [lI, nI_add, pk_mul, nI_leI, nI_ltI, nI_eq, ck_n, nm_n, nI_clamp, Option.bind_some, if_pos, if_neg, bk_n0, bk_n1, nI_sub, upd_s, mi_e, mi_ne, mi_ne2, mi_lt, mi_le, mi_nle, mi_nlt, mi_s, bt_shrE, bit_e, true_and, and_true, if_true, if_false, ne_eq, not_true_eq_false, not_false_eq_true, Bool.false_eq_true, Bool.true_eq_false, reduceCtorEq, readsR_n hO hj]
    have := rR24 hB h1 hM hV hc (f_Mo_registersRead_5 n) (nI j) (m := cnt (fun k => RRO O j k || anyM (fun q => q.1 == k) (LM K c) 4) i) (k := i) (mopn := mopn) (by omega) B 0 5000 (RRO O j i) (by omega) (by omega)
    rw [anyF_B hB hV hc] at this
    rw [this]
    exact ih
theorem mregsR_n {B : Nat} (hB : BV B) {K : KT} {O : OT} {N : Nat} {ki tg fi se oc mo mopn mc : Nat → Int32} (hO : OL O N ki tg fi se oc mopn) {j : Nat} (hj : j < N) (h1 : mo 1 = nI B) (hM : KM K mc) (hV : KV B K) {c : Nat} (hc : c < 64) : f_Mo_registersRead mo mopn mc (nI c) (nI j) = some (nI (cnt (fun k => RRO O j k || anyM (fun q => q.1 == k) (LM K c) 4) 8)) :=
  rR5 hB hO hj h1 hM hV hc 8 0 5000 (by omega) (by omega)
