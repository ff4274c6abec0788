-- ===== leaving a state by a set of moves =====
def DN (K : KT) (cn : Nat → Int32) (L : Nat → Nat) (M : MT) (ju : Nat → Int32) (rd : Nat → Int64) (c j a : Nat) : Prop :=
  (flt L M j a ≠ 0 → BT (ju 8) (ju 9) c (flt L M j a)) ∧ (flt L M j a = 0 → hlt M = false → bl (rd (ncy cn c j * 9 + njp M j)) (old L M a) = true)
theorem DN_mono {K : KT} {cn : Nat → Int32} {L : Nat → Nat} {M : MT} {R : Nat → Nat → Nat → Prop} {W : Nat → Nat → Prop} {ju ju' : Nat → Int32} {rd fr rd' fr' : Nat → Int64} (h : GR R W ju rd fr ju' rd' fr') {c j a : Nat} (k : DN K cn L M ju rd c j a) : DN K cn L M ju' rd' c j a :=
  ⟨fun z => h.2.2.2.2.2.1 _ _ (k.1 z), fun z1 z2 => h.1 _ _ (k.2 z1 z2)⟩
theorem wrap_m2 : ∀ c, c < 64 → nI c - (2 : Int32) &&& (63 : Int32) = nI ((c + 62) % 64) := by decide +kernel
theorem goOn_a {jb ju cn r_co : Nat → Int32} {rd fr : Nat → Int64} {Y : Int64} {M : MT} {c j : Nat} (hc : c < 64) (h4 : j ≤ 4) (h5 : jb 5 = jbus M 4) {r : (Nat → Int32) × (Nat → Int64) × (Nat → Int64)} (q1 : f_Ju_reach ju rd fr (nI ((c + 1) % 64)) (nI (njp M j)) Y = some r) : f_Ju_goOn r_co cn ju jb rd fr (nI c) (nI j) Y = some r := by
  have e1 : f_Md_wrapCycle (nI (c + 1)) = some (nI ((c + 1) % 64)) := wrap_n (by omega)
  unfold f_Ju_goOn
  unfold njp at q1
  by_cases h0 : j = 0
  · subst h0
    rw [if_pos rfl] at q1
    rcases jsp_c M 4 with ⟨z1, z2, _⟩ | ⟨b, s, k, z1, z2, z3, _⟩
    · rw [z1] at q1
      simp (disch := omega) only [lI, nI_add, pk_mul, nI_leI, nI_ltI, nI_eq, ck_n, nm_n, nI_clamp, Option.bind_some, if_pos, if_neg, bk_n0, bk_n1, nI_sub, upd_s, mi_e, mi_ne, mi_ne2, mi_lt, mi_le, mi_nle, mi_nlt, mi_s, bt_shrE, bit_e, true_and, and_true, if_true, if_false, ne_eq, not_true_eq_false, not_false_eq_true, Bool.false_eq_true, Bool.true_eq_false, reduceCtorEq, e1, h5, z2, q1]
    · rw [z1, Nat.add_comm b 1] at q1
      simp (disch := omega) only [lI, nI_add, pk_mul, nI_leI, nI_ltI, nI_eq, ck_n, nm_n, nI_clamp, Option.bind_some, if_pos, if_neg, bk_n0, bk_n1, nI_sub, upd_s, mi_e, mi_ne, mi_ne2, mi_lt, mi_le, mi_nle, mi_nlt, mi_s, bt_shrE, bit_e, true_and, and_true, if_true, if_false, ne_eq, not_true_eq_false, not_false_eq_true, Bool.false_eq_true, Bool.true_eq_false, reduceCtorEq, e1, h5, z2, q1]
  · rw [if_neg h0, if_pos h4] at q1
    simp (disch := omega) only [lI, nI_add, pk_mul, nI_leI, nI_ltI, nI_eq, ck_n, nm_n, nI_clamp, Option.bind_some, if_pos, if_neg, bk_n0, bk_n1, nI_sub, upd_s, mi_e, mi_ne, mi_ne2, mi_lt, mi_le, mi_nle, mi_nlt, mi_s, bt_shrE, bit_e, true_and, and_true, if_true, if_false, ne_eq, not_true_eq_false, not_false_eq_true, Bool.false_eq_true, Bool.true_eq_false, reduceCtorEq, e1, q1]
theorem gb_1 {c : Nat} (hc : c < 64) : f_Md_wrapCycle (nI c + 1) = some (nI ((c + 1) % 64)) := by
  rw [show nI c + (1 : Int32) = nI (c + 1) from nI_add c 1]
  exact wrap_n (by omega)
theorem gb_2 {c : Nat} (hc : c < 64) : f_Md_wrapCycle (nI c - 2) = some (nI ((c + 62) % 64)) := congrArg some (wrap_m2 c hc)
theorem gb_3 {w j : Nat} {r_co cn : Nat → Int32} (hw : w < 64) (hj : j < 9) (h4 : ¬ j ≤ 4) : f_Co_constant r_co cn (nI w) (nI j - 1 - 4) = some (cn (w * 4 + (j - 5))) := by
  have e : nI j - (1 : Int32) - (4 : Int32) = nI (j - 1 - 4) := by
    show nI j - nI 1 - nI 4 = _
    rw [nI_sub (by omega), nI_sub (by omega)]
  rw [e]
  unfold f_Co_constant
  rw [ix_n, ck_n (by omega) (by omega), nI_clamp (by omega), show j - 1 - 4 = j - 5 by omega]
theorem gb_4 {w j : Nat} {cn : Nat → Int32} : f_Md_wrapCycle (cn (w * 4 + (j - 5))) = some (nI (tq cn w (j - 5))) := congrArg some (tq_n cn _ _).1
theorem gb_5 {jb ju cn r_co : Nat → Int32} {rd fr : Nat → Int64} {Y : Int64} {j : Nat} {x y z w t : Int32} (h4 : ¬ j ≤ 4) (hj : j < 9) {r : (Nat → Int32) × (Nat → Int64) × (Nat → Int64)} (e1 : f_Md_wrapCycle (x + 1) = some y) (e2 : f_Md_wrapCycle (x - 2) = some w) (e3 : f_Co_constant r_co cn w (nI j - 1 - 4) = some z) (e4 : f_Md_wrapCycle z = some t) (q1 : f_Ju_reach ju rd fr t 0 Y = some r) : f_Ju_goOn r_co cn ju jb rd fr x (nI j) Y = some r := by
  unfold f_Ju_goOn
  rw [e1, Option.bind_some, if_neg (show ¬ nI j ≤ (4 : Int32) from nI_ge (b := j) (a := 4) (by omega) (by omega)), e2, Option.bind_some, e3, Option.bind_some, e4, Option.bind_some, q1]
  rfl
theorem goOn_b {jb ju cn r_co : Nat → Int32} {rd fr : Nat → Int64} {Y : Int64} {c j : Nat} (hc : c < 64) (h4 : ¬ j ≤ 4) (hj : j < 9) {r : (Nat → Int32) × (Nat → Int64) × (Nat → Int64)} (q1 : f_Ju_reach ju rd fr (nI (tq cn ((c + 62) % 64) (j - 5))) (nI 0) Y = some r) : f_Ju_goOn r_co cn ju jb rd fr (nI c) (nI j) Y = some r :=
  gb_5 h4 hj (gb_1 hc) (gb_2 hc) (gb_3 (Nat.mod_lt _ (by omega)) hj h4) gb_4 q1
theorem goOn_n {R : Nat → Nat → Nat → Prop} {W : Nat → Nat → Prop} {M : MT} {r_co cn jb ju : Nat → Int32} {rd fr : Nat → Int64} {Y : Int64} (hv : VBv W (ju 8) (ju 9)) {c j : Nat} (hc : c < 64) (hj : j < 9) (h5 : jb 5 = jbus M 4) (hY : ∀ a, bl Y a = true → R (ncy cn c j) (njp M j) a) (hR : ∀ c j a, R c j a → a < 40) : ∃ ju' rd' fr', f_Ju_goOn r_co cn ju jb rd fr (nI c) (nI j) Y = some (ju', rd', fr') ∧ GR R W ju rd fr ju' rd' fr' ∧ ∀ a, bl Y a = true → bl (rd' (ncy cn c j * 9 + njp M j)) a = true := by
  obtain ⟨ju', rd', fr', q1, q2, q3⟩ := reach_n (ju := ju) (rd := rd) (fr := fr) hv (ncy_lt cn c j) (njp_lt M hj) hY (hR _ _)
  refine ⟨ju', rd', fr', ?_, q2, q3⟩
  by_cases h4 : j ≤ 4
  · unfold ncy at q1
    rw [if_pos h4] at q1
    exact goOn_a hc h4 h5 q1
  · unfold ncy njp at q1
    rw [if_neg h4, if_neg (by omega), if_neg h4] at q1
    exact goOn_b hc h4 hj q1
theorem FTb_no {M : MT} {h h' : Nat → Bool} {j : Bool} (e : noRes M h = noRes M h') : FTb M h j = FTb M h' j := by
  unfold FTb; rw [e]
theorem FTb_yes {M : MT} {h h' : Nat → Bool} {j : Bool} (e : noRes M h = true) (e' : noRes M h' = true) : FTb M h j = FTb M h' j ∧ FTb M h j ≠ 0 := by
  unfold FTb
  rw [e, e']
  refine ⟨by simp, ?_⟩
  split
  · omega
  · simp
theorem noRes_iff {M : MT} {h : Nat → Bool} : noRes M h = true ↔ ∃ u, u < 3 ∧ h u = false ∧ anyM (fun q => q.1 == 8 + u && decide (u < 3)) M 4 = true := by
  unfold noRes
  rw [anyM_iff]
  constructor
  · rintro ⟨b, q, h1, h2, h3⟩
    simp only [Bool.and_eq_true, decide_eq_true_eq, Bool.not_eq_true'] at h3
    refine ⟨q.1 - 8, by omega, h3.2, (anyM_iff 4).mpr ⟨b, q, h1, h2, ?_⟩⟩
    simp only [Bool.and_eq_true, decide_eq_true_eq, beq_iff_eq]
    omega
  · rintro ⟨u, h1, h2, h3⟩
    obtain ⟨b, q, k1, k2, k3⟩ := (anyM_iff 4).mp h3
    simp only [Bool.and_eq_true, decide_eq_true_eq, beq_iff_eq] at k3
    refine ⟨b, q, k1, k2, ?_⟩
    simp only [Bool.and_eq_true, decide_eq_true_eq, Bool.not_eq_true']
    refine ⟨⟨by omega, by omega⟩, ?_⟩
    rw [show q.1 - 8 = u by omega]; exact h2
theorem leaveBy74_n {R : Nat → Nat → Nat → Prop} {W : Nat → Nat → Prop} {K : KT} {L : Nat → Nat} (hL : LJ L) {M : MT} {r_co cn jb ju : Nat → Int32} {rd fr ub wr : Nat → Int64} {X : Int64} (hJ : JR L ub wr) (hv : VBv W (ju 8) (ju 9)) {c j : Nat} (hc : c < 64) (hj : j < 9) (hd25 : ∀ b, b < 4 → ∀ s k d, M b = some (s, k, d) → d ≤ 25) (hg : GI M 4 jb) (hR : ∀ c j a, R c j a → a < 40) (hX : ∀ a, bl X a = true → VA L a) (hn : ∀ a, bl X a = true → noRes M (hd L a) = false) (hW : ∀ a, bl X a = true → flt L M j a ≠ 0 → W c (flt L M j a)) (hS : ∀ a, bl X a = true → flt L M j a = 0 → hlt M = false → R (ncy cn c j) (njp M j) (old L M a)) : ∃ ju' rd' fr', f_Ju_leaveBy_74 r_co cn ju jb rd fr ub wr (nI c) (nI j) X = some (ju', rd', fr') ∧ GR R W ju rd fr ju' rd' fr' ∧ ∀ a, bl X a = true → DN K cn L M ju' rd' c j a := by
  by_cases e0 : X = 0
  · refine ⟨ju, rd, fr, ?_, GR_refl hv, fun a ha => ?_⟩
    · unfold f_Ju_leaveBy_74
      rw [if_pos ((lgc_eq _ _).mpr e0)]
    · rw [e0, bl_zero] at ha; cases ha
  · obtain ⟨a0, ha0⟩ : ∃ a, bl X a = true := by
      refine Classical.byContradiction (fun hn => e0 (bl_eq0.mpr (fun i _ => ?_)))
      cases h2 : bl X i
      · rfl
      · exact absurd ⟨i, h2⟩ hn
    have h7 : noRes M (bt 7) = false := by
      cases z : noRes M (bt 7)
      · rfl
      · obtain ⟨u, h1, h2, _⟩ := noRes_iff.mp z
        have : ∀ u, u < 3 → bt 7 u = true := by decide +kernel
        rw [this u h1] at h2; cases h2
    have hF : ∀ a, bl X a = true → flt L M j a = nxF M (FTb M (bt 7) (!(j == 0))) := fun a ha => by
      unfold flt
      rw [FTb_no (h' := bt 7) ((hn a ha).trans h7.symm)]
    have hft := fault_n hd25 hg 7 (!(j == 0))
    have h4 := FTb_le M (bt 7) (!(j == 0))
    generalize FTb M (bt 7) (!(j == 0)) = F at hF hft h4
    have h102 : f_Ju_leaveBy_74 r_co cn ju jb rd fr ub wr (nI c) (nI j) X = f_Ju_leaveBy_102 r_co cn ju jb rd fr ub wr (nI c) (nI j) X (nI F) := by
      unfold f_Ju_leaveBy_74
      rw [if_neg (fun q => e0 ((lgc_eq _ _).mp q))]
      by_cases hj0 : j = 0
      · subst hj0
        rw [if_pos (show nI 0 = 0 from rfl)]
        have : f_Bu_leastFault jb 7 0 = some (nI F) := hft
        rw [this]
        rfl
      · rw [if_neg (by rw [show (0 : Int32) = nI 0 from rfl, nI_eq (by omega) (by omega)]; exact hj0)]
        rw [beq_false_of_ne hj0] at hft
        have : f_Bu_leastFault jb 7 1 = some (nI F) := hft
        rw [this]
        rfl
    have h120 : f_Ju_leaveBy_102 r_co cn ju jb rd fr ub wr (nI c) (nI j) X (nI F) = f_Ju_leaveBy_120 r_co cn ju jb rd fr ub wr (nI c) (nI j) X (nI (nxF M F)) := by
      unfold f_Ju_leaveBy_102 nxF
      have h6 : jb 6 = b2i (ncj M) := hg.2.2.2.2.2.2.1
      by_cases hz : F = 0
      · rw [if_pos hz, hz]
        cases hcj : ncj M
        · simp (disch := omega) only [lI, nI_add, pk_mul, nI_leI, nI_ltI, nI_eq, ck_n, nm_n, nI_clamp, Option.bind_some, if_pos, if_neg, bk_n0, bk_n1, nI_sub, upd_s, mi_e, mi_ne, mi_ne2, mi_lt, mi_le, mi_nle, mi_nlt, mi_s, bt_shrE, bit_e, true_and, and_true, if_true, if_false, ne_eq, not_true_eq_false, not_false_eq_true, Bool.false_eq_true, Bool.true_eq_false, reduceCtorEq, h6, hcj, b2i_0]
        · simp (disch := omega) only [lI, nI_add, pk_mul, nI_leI, nI_ltI, nI_eq, ck_n, nm_n, nI_clamp, Option.bind_some, if_pos, if_neg, bk_n0, bk_n1, nI_sub, upd_s, mi_e, mi_ne, mi_ne2, mi_lt, mi_le, mi_nle, mi_nlt, mi_s, bt_shrE, bit_e, true_and, and_true, if_true, if_false, ne_eq, not_true_eq_false, not_false_eq_true, Bool.false_eq_true, Bool.true_eq_false, reduceCtorEq, h6, hcj, b2i_0]
      · rw [if_neg hz]
        simp (disch := omega) only [lI, nI_add, pk_mul, nI_leI, nI_ltI, nI_eq, ck_n, nm_n, nI_clamp, Option.bind_some, if_pos, if_neg, bk_n0, bk_n1, nI_sub, upd_s, mi_e, mi_ne, mi_ne2, mi_lt, mi_le, mi_nle, mi_nlt, mi_s, bt_shrE, bit_e, true_and, and_true, if_true, if_false, ne_eq, not_true_eq_false, not_false_eq_true, Bool.false_eq_true, Bool.true_eq_false, reduceCtorEq]
    have hlt6 : nxF M F < 6 := by rw [← hF a0 ha0]; exact flt_lt _ _ _ _
    rw [h102, h120]
    unfold f_Ju_leaveBy_120
    by_cases hz : nxF M F = 0
    · have h7j : jb 7 = b2i (hlt M) := hg.2.2.2.2.2.2.2
      cases hh : hlt M
      · obtain ⟨Y, y1, y2⟩ := older_n (M := M) hL hJ (fun u hu => hg.2.2.2.2.1 u (by omega)) hX ju
        obtain ⟨ju', rd', fr', q1, q2, q3⟩ := goOn_n (r_co := r_co) (fr := fr) (rd := rd) hv hc hj hg.2.2.2.2.2.1 (Y := Y) (cn := cn) (fun b hb => by
          obtain ⟨a, k1, k2⟩ := (y2 b).mp hb
          rw [← k2]; exact hS a k1 ((hF a k1).trans hz) hh) hR
        refine ⟨ju', rd', fr', ?_, q2, fun a ha => ⟨fun z => absurd ((hF a ha).trans hz) z, fun _ _ => q3 _ ((y2 _).mpr ⟨a, ha, rfl⟩)⟩⟩
        rw [hz]
        simp (disch := omega) only [lI, nI_add, pk_mul, nI_leI, nI_ltI, nI_eq, ck_n, nm_n, nI_clamp, Option.bind_some, if_pos, if_neg, bk_n0, bk_n1, nI_sub, upd_s, mi_e, mi_ne, mi_ne2, mi_lt, mi_le, mi_nle, mi_nlt, mi_s, bt_shrE, bit_e, true_and, and_true, if_true, if_false, ne_eq, not_true_eq_false, not_false_eq_true, Bool.false_eq_true, Bool.true_eq_false, reduceCtorEq, h7j, hh, b2i_0, y1, q1]
      · refine ⟨ju, rd, fr, ?_, GR_refl hv, fun a ha => ⟨fun z => absurd ((hF a ha).trans hz) z, fun _ z => by rw [hh] at z; cases z⟩⟩
        rw [hz]
        simp (disch := omega) only [lI, nI_add, pk_mul, nI_leI, nI_ltI, nI_eq, ck_n, nm_n, nI_clamp, Option.bind_some, if_pos, if_neg, bk_n0, bk_n1, nI_sub, upd_s, mi_e, mi_ne, mi_ne2, mi_lt, mi_le, mi_nle, mi_nlt, mi_s, bt_shrE, bit_e, true_and, and_true, if_true, if_false, ne_eq, not_true_eq_false, not_false_eq_true, Bool.false_eq_true, Bool.true_eq_false, reduceCtorEq, h7j, hh, b2i_0]
    · obtain ⟨ju', q1, q2, q3, q4, q5⟩ := blame_n hv hc hlt6 (by have := hW a0 ha0; rw [hF a0 ha0] at this; exact this hz)
      refine ⟨ju', rd, fr, ?_, GR_ju q2 q4 q5, fun a ha => ⟨fun _ => by rw [hF a ha]; exact q3, fun z => absurd ((hF a ha).symm.trans z) hz⟩⟩
      simp (disch := omega) only [lI, nI_add, pk_mul, nI_leI, nI_ltI, nI_eq, ck_n, nm_n, nI_clamp, Option.bind_some, if_pos, if_neg, bk_n0, bk_n1, nI_sub, upd_s, mi_e, mi_ne, mi_ne2, mi_lt, mi_le, mi_nle, mi_nlt, mi_s, bt_shrE, bit_e, true_and, and_true, if_true, if_false, ne_eq, not_true_eq_false, not_false_eq_true, Bool.false_eq_true, Bool.true_eq_false, reduceCtorEq, q1]
theorem leaveBy6_n {R : Nat → Nat → Nat → Prop} {W : Nat → Nat → Prop} {K : KT} {L : Nat → Nat} (hL : LJ L) {M : MT} {r_co cn jb ju : Nat → Int32} {rd fr ub wr : Nat → Int64} {X : Int64} (hJ : JR L ub wr) (hv : VBv W (ju 8) (ju 9)) {c j : Nat} (hc : c < 64) (hj : j < 9) (hd25 : ∀ b, b < 4 → ∀ s k d, M b = some (s, k, d) → d ≤ 25) (hg : GI M 4 jb) (hR : ∀ c j a, R c j a → a < 40) (hX : ∀ a, bl X a = true → VA L a) (hW : ∀ a, bl X a = true → flt L M j a ≠ 0 → W c (flt L M j a)) (hS : ∀ a, bl X a = true → flt L M j a = 0 → hlt M = false → R (ncy cn c j) (njp M j) (old L M a)) : ∀ (d i n : Nat) (V : Int64), i + d = 3 → d < n → (∀ a, bl V a = true ↔ bl X a = true ∧ ∀ u, u < i → anyM (fun q => q.1 == 8 + u && decide (u < 3)) M 4 = true → hd L a u = true) → ∃ ju' rd' fr', f_Ju_leaveBy_6 n r_co cn ju jb rd fr ub wr (nI c) (nI j) X V (nI i) = some (ju', rd', fr') ∧ GR R W ju rd fr ju' rd' fr' ∧ ∀ a, bl X a = true → DN K cn L M ju' rd' c j a
  | 0, i, n + 1, V, hi, hn, hV => by
    have e3 : i = 3 := by omega
    subst e3
    have hVn : ∀ a, bl X a = true → (bl V a = true ↔ noRes M (hd L a) = false) := fun a ha => by
      rw [hV a]
      constructor
      · rintro ⟨_, h2⟩
        cases z : noRes M (hd L a)
        · rfl
        · obtain ⟨u, k1, k2, k3⟩ := noRes_iff.mp z
          rw [h2 u k1 k3] at k2; cases k2
      · intro z
        refine ⟨ha, fun u hu h3 => ?_⟩
        cases y : hd L a u
        · have : noRes M (hd L a) = true := noRes_iff.mpr ⟨u, hu, y, h3⟩
          rw [this] at z; cases z
        · rfl
    have hVX : ∀ a, bl V a = true → bl X a = true := fun a ha => ((hV a).mp ha).1
    rw [f_Ju_leaveBy_6]
    by_cases hVe : V = X
    · obtain ⟨ju', rd', fr', q1, q2, q3⟩ := leaveBy74_n (K := K) (r_co := r_co) (rd := rd) (fr := fr) hL hJ hv hc hj hd25 hg hR hX (fun a ha => (hVn a ha).mp (by rw [hVe]; exact ha)) hW hS
      refine ⟨ju', rd', fr', ?_, q2, q3⟩
      have := (lgc_eq V X).mpr hVe
      rw [if_pos (show (3 : Int32) ≤ nI 3 from nI_le (a := 3) (b := 3) (by omega) (by omega)), if_pos this, hVe]
      exact q1
    · have hex : ∃ a, bl X a = true ∧ noRes M (hd L a) = true := by
        refine Classical.byContradiction (fun hno => hVe (bl_ext (fun a _ => ?_)))
        cases z : bl X a
        · cases y : bl V a
          · rfl
          · rw [hVX a y] at z; cases z
        · rw [(hVn a z).mpr ?_]
          cases y : noRes M (hd L a)
          · rfl
          · exact absurd ⟨a, z, y⟩ hno
      obtain ⟨a1, ha1, hn1⟩ := hex
      have h0 : noRes M (bt 0) = true := by
        obtain ⟨u, k1, _, k3⟩ := noRes_iff.mp hn1
        exact noRes_iff.mpr ⟨u, k1, bt_zero u, k3⟩
      have hFb : ∀ a, noRes M (hd L a) = true → flt L M j a = FTb M (bt 0) (!(j == 0)) := fun a ha => by
        obtain ⟨z1, z2⟩ := FTb_yes (j := !(j == 0)) ha h0
        unfold flt nxF
        rw [if_neg z2, z1]
      have hne : FTb M (bt 0) (!(j == 0)) ≠ 0 := (FTb_yes (j := !(j == 0)) h0 h0).2
      have hle := FTb_le M (bt 0) (!(j == 0))
      obtain ⟨ju1, p1, p2, p3, p4, p5⟩ := blame_n hv hc (show FTb M (bt 0) (!(j == 0)) < 6 by omega) (by have := hW a1 ha1; rw [hFb a1 hn1] at this; exact this hne)
      obtain ⟨ju', rd', fr', q1, q2, q3⟩ := leaveBy74_n (K := K) (r_co := r_co) (rd := rd) (fr := fr) (ju := ju1) (X := V) hL hJ p2 hc hj hd25 hg hR (fun a ha => hX a (hVX a ha)) (fun a ha => (hVn a (hVX a ha)).mp ha) (fun a ha => hW a (hVX a ha)) (fun a ha => hS a (hVX a ha))
      have hgj := GR_ju (R := R) (rd := rd) (fr := fr) p2 p4 p5
      refine ⟨ju', rd', fr', ?_, GR_trans hgj q2, fun a ha => ?_⟩
      · rw [if_pos (show (3 : Int32) ≤ nI 3 from nI_le (a := 3) (b := 3) (by omega) (by omega)), if_neg (fun q => hVe ((lgc_eq _ _).mp q))]
        have hft := fault_n hd25 hg 0
        by_cases hj0 : j = 0
        · subst hj0
          have h2 := hft false
          rw [b2i_f] at h2
          rw [if_pos (show nI 0 = 0 from rfl)]
          have h3 : f_Bu_leastFault jb 0 0 = some (nI (FTb M (bt 0) false)) := h2
          rw [h3, Option.bind_some]
          have p1' : f_Ju_blame ju (nI c) (nI (FTb M (bt 0) false)) = some ju1 := p1
          rw [p1']
          exact q1
        · have h2 := hft true
          rw [b2i_t] at h2
          rw [if_neg (by rw [show (0 : Int32) = nI 0 from rfl, nI_eq (by omega) (by omega)]; exact hj0)]
          rw [beq_false_of_ne hj0, show (!false) = true from rfl] at p1
          have h3 : f_Bu_leastFault jb 0 1 = some (nI (FTb M (bt 0) true)) := h2
          rw [h3, Option.bind_some, p1]
          exact q1
      · cases z : noRes M (hd L a)
        · exact q3 a ((hVn a ha).mpr z)
        · rw [show DN K cn L M ju' rd' c j a = ((flt L M j a ≠ 0 → BT (ju' 8) (ju' 9) c (flt L M j a)) ∧ (flt L M j a = 0 → hlt M = false → bl (rd' (ncy cn c j * 9 + njp M j)) (old L M a) = true)) from rfl, hFb a z]
          exact ⟨fun _ => q2.2.2.2.2.2.1 _ _ p3, fun y => absurd y hne⟩
  | d + 1, i, n + 1, V, hi, hn, hV => by
    have hi3 : i < 3 := by omega
    rw [f_Ju_leaveBy_6]
    unfold f_Ju_leaveBy_39
    have hb3 := hg.2.2.2.1 i (by omega)
    cases hr : anyM (fun q => q.1 == 8 + i && decide (i < 3)) M 4
    · obtain ⟨ju', rd', fr', q1, q2, q3⟩ := leaveBy6_n (K := K) (r_co := r_co) (rd := rd) (fr := fr) hL hJ hv hc hj hd25 hg hR hX hW hS d (i + 1) n V (by omega) (by omega) (fun a => by
        rw [hV a]
        constructor
        · rintro ⟨h1, h2⟩
          refine ⟨h1, fun u hu h3 => ?_⟩
          by_cases e : u = i
          · subst e; rw [hr] at h3; cases h3
          · exact h2 u (by omega) h3
        · rintro ⟨h1, h2⟩
          exact ⟨h1, fun u hu h3 => h2 u (by omega) h3⟩)
      refine ⟨ju', rd', fr', ?_, q2, q3⟩
      rw [hr] at hb3
      simp (disch := omega) only [lI, nI_leI, if_neg, ck_n, nm_n, nI_clamp, bt_shrE, hb3, if_true, nI_add]
      exact q1
    · obtain ⟨ju', rd', fr', q1, q2, q3⟩ := leaveBy6_n (K := K) (r_co := r_co) (rd := rd) (fr := fr) hL hJ hv hc hj hd25 hg hR hX hW hS d (i + 1) n (V &&& wr i) (by omega) (by omega) (fun a => by
        rw [bl_and, Bool.and_eq_true, hV a, (hJ i hi3 a).2]
        constructor
        · rintro ⟨⟨h1, h2⟩, h4⟩
          refine ⟨h1, fun u hu h3 => ?_⟩
          by_cases e : u = i
          · subst e
            rw [Bool.and_eq_true] at h4
            exact h4.2
          · exact h2 u (by omega) h3
        · rintro ⟨h1, h2⟩
          refine ⟨⟨h1, fun u hu h3 => h2 u (by omega) h3⟩, ?_⟩
          rw [Bool.and_eq_true, decide_eq_true_eq]
          exact ⟨(hX a h1).1, h2 i (by omega) hr⟩)
      refine ⟨ju', rd', fr', ?_, q2, q3⟩
      rw [hr] at hb3
      simp (disch := omega) only [lI, nI_leI, if_neg, ck_n, nm_n, nI_clamp, bt_shrE, hb3, Bool.true_eq_false, not_false_eq_true, if_false, nI_add]
      exact q1
