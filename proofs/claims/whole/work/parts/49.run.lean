def PDR (Lt : Nat → Nat) (ma cm mo mfu mfv mfi : Nat → Int32) : Prop := ∃ l sl, PDs Lt l sl ma cm mo mfu mfv mfi ∧ ∀ u v, (u, Lt u, v) ∉ l
theorem stay_ge {R : List T3} (hR : ∀ t ∈ R, 1 ≤ t.2.1) {u k : Nat} {v : Int32} (h : (u, k, v) ∈ stay R) : 1 ≤ k := by
  unfold stay at h
  obtain ⟨⟨a, b, w⟩, h1, h2⟩ := List.mem_map.mp h
  rw [List.mem_filter] at h1
  have h3 := hR _ h1.1
  simp only [dec3, Prod.mk.injEq] at h2 h3
  have h4 := h1.2
  simp at h4
  omega
theorem deliver_land {Lt : Nat → Nat} {lat mlat : Nat → Int32} (hL : LL Lt lat mlat) {l : List T3} {sl : Nat} {ma cm od rs mo mopd mres mhad mfu mfv mfi : Nat → Int32} (hP : PDs Lt l sl ma cm mo mfu mfv mfi) (hR : RM ma od rs mo mopd mres mhad) : ∃ ma' rs' mo' mres' mhad' mfu' mfv' mfi', f_Ma_deliverResults ma rs cm = some (ma', rs') ∧ f_Mo_land mo mres mhad mfu mfv mfi = some (mo', mres', mhad', mfu', mfv', mfi') ∧ RM ma' od rs' mo' mopd mres' mhad' ∧ PDR Lt ma' cm mo' mfu' mfv' mfi' ∧ ∀ j, j ≠ 15 → mo' j = mo j := by
  have h12 := len12 hL hP
  obtain ⟨hsl, e9, hb, hm, hnd, e15, har⟩ := hP
  obtain ⟨ma', rs', d1, d2, d3, d4, d5, d6⟩ := deliver_lp hsl (cm := cm) 3 0 5000 ma rs (by omega) (by omega) e9
  have hl4 : ∀ t ∈ l, t.1 < 3 ∧ 1 ≤ t.2.1 ∧ t.2.1 ≤ 4 := fun t ht => by
    obtain ⟨a1, a2, a3, _⟩ := hm t.1 t.2.1 t.2.2 ht
    have := (hL t.1 a1).2.2.2
    exact ⟨a1, a2, by omega⟩
  have hl1 : ∀ t ∈ l, 1 ≤ t.2.1 := fun t ht => (hl4 t ht).2.1
  obtain ⟨mres', mhad', mfu', mfv', mfi', m1, m2, m3⟩ := land_lp h12 e15 l [] 0 5000 mres mhad mfu mfv mfi (by simp) (by simp) (by omega) (fun f t hf => by simp at hf) (fun f t hf => by rw [Nat.zero_add]; exact har f t hf) hl4
  rw [List.nil_append] at m1 m2
  have bit1 : ∀ u, u < 3 → (bt (ma 8) (u * 4 + sl) = true ↔ ∃ v, (u, 1, v) ∈ l) := fun u hu => by
    have := hb u hu 1 (by omega) (by omega)
    rw [show (sl + 1 - 1) % 4 = sl by omega] at this
    exact this
  have val1 : ∀ u v, (u, 1, v) ∈ l → cm (u * 4 + sl) = v := fun u v h => by
    have := (hm u 1 v h).2.2.2
    rw [show (sl + 1 - 1) % 4 = sl by omega] at this
    exact this
  obtain ⟨r1, r2, r3, r4, r5, ⟨p, hp, r6, r6'⟩, ⟨j, hj, r7, r7', r7''⟩, ⟨q, hq, r8, r8'⟩⟩ := hR
  refine ⟨ma', rs', upd mo 15 (nI (stay l).length), mres', mhad', mfu', mfv', mfi', d1, m1, ⟨r1, fun u hu => ?_, fun u hu => ?_, fun i h3 hi => ?_, ?_, ⟨p, hp, ?_, r6'⟩, ⟨j, hj, ?_, r7', fun h0 => ?_⟩, ⟨q, hq, ?_, r8'⟩⟩, ⟨stay l, (sl + 1) % 4, ⟨by omega, d2, fun u hu k hk1 hk4 => ?_, fun u k v hin => ?_, ?_, upd_s mo 15 _, m2⟩, fun u v hin => ?_⟩, fun j hj => upd_n hj⟩
  · rw [d4 u hu]
    by_cases hbit : bt (ma 8) (u * 4 + sl) = true
    · obtain ⟨v, hv⟩ := (bit1 u hu).mp hbit
      rw [if_pos ⟨by omega, hbit⟩, val1 u v hv]
      exact ((m3 u hu).2 v hv (fun w hw => by rw [← val1 u v hv, ← val1 u w hw])).1.symm
    · rw [if_neg (fun h => hbit h.2), r2 u hu]
      exact ((m3 u hu).1 (fun v hv => hbit ((bit1 u hu).mpr ⟨v, hv⟩))).1.symm
  · rw [d5 u (by omega)]
    by_cases hbit : bt (ma 8) (u * 4 + sl) = true
    · obtain ⟨v, hv⟩ := (bit1 u hu).mp hbit
      rw [((m3 u hu).2 v hv (fun w hw => by rw [← val1 u v hv, ← val1 u w hw])).2]
      simp [hu, hbit]
    · rw [((m3 u hu).1 (fun v hv => hbit ((bit1 u hu).mpr ⟨v, hv⟩))).2, r3 u hu]
      simp [hbit]
  · rw [d5 i hi, r4 i h3 hi]
    have : ¬ i < 3 := by omega
    simp [this]
  · show ma' 11 = mo 9
    rw [d3 11 (by omega) (by omega) (by omega)]; exact r5
  · rw [d3 12 (by omega) (by omega) (by omega)]; exact r6
  · rw [d3 13 (by omega) (by omega) (by omega)]; exact r7
  · obtain ⟨t, ht, e1, e2⟩ := r7'' h0
    exact ⟨t, ht, by rw [d3 14 (by omega) (by omega) (by omega)]; exact e1, e2⟩
  · rw [d3 15 (by omega) (by omega) (by omega)]; exact r8
  · rw [d6 _ (by omega)]
    have ht : (u * 4 + ((sl + 1) % 4 + k - 1) % 4) = u * 4 + (sl + k) % 4 := by omega
    rw [ht]
    constructor
    · intro h
      rw [Bool.and_eq_true] at h
      by_cases h4 : k = 4
      · exfalso
        have e1 : (u * 4 + (sl + k) % 4) % 4 = sl := by omega
        have := h.2
        simp [e1] at this
      · obtain ⟨v, hv⟩ := (hb u hu (k + 1) (by omega) (by omega)).mp (by rw [show sl + (k + 1) - 1 = sl + k by omega]; exact h.1)
        exact ⟨v, (mem_stay hk1 hl1).mpr hv⟩
    · rintro ⟨v, hv⟩
      have hv2 := (mem_stay hk1 hl1).mp hv
      obtain ⟨a1, a2, a3, a4⟩ := hm _ _ _ hv2
      have := (hL u hu).2.2.2
      have h5 := (hb u hu (k + 1) (by omega) (by omega)).mpr ⟨v, hv2⟩
      rw [show sl + (k + 1) - 1 = sl + k by omega] at h5
      rw [h5]
      have e1 : ¬ (u * 4 + (sl + k) % 4) % 4 = sl := by omega
      rw [decide_eq_false e1]; rfl
  · have hk1 := stay_ge hl1 hin
    have hv2 := (mem_stay hk1 hl1).mp hin
    obtain ⟨a1, a2, a3, a4⟩ := hm _ _ _ hv2
    refine ⟨a1, hk1, by omega, ?_⟩
    rw [show sl + (k + 1) - 1 = sl + k by omega] at a4
    rw [show ((sl + 1) % 4 + k - 1) % 4 = (sl + k) % 4 by omega]
    exact a4
  · have h1 : l.Pairwise (fun a b => code3 a ≠ code3 b) := List.pairwise_map.mp hnd
    have h2 : (l.filter (fun t => !(t.2.1 == 1))).Pairwise (fun a b => code3 a ≠ code3 b) := h1.filter _
    show ((stay l).map code3).Pairwise (fun a b => a ≠ b)
    rw [List.pairwise_map]
    unfold stay
    rw [List.pairwise_map]
    refine List.Pairwise.imp_of_mem (fun {a b} ha hb hab => ?_) h2
    rw [List.mem_filter] at ha hb
    have a1 := hl4 a ha.1
    have b1 := hl4 b hb.1
    have a2 := ha.2
    have b2 := hb.2
    simp at a2 b2
    simp only [code3, dec3] at hab ⊢
    omega
  · have hk1 := stay_ge hl1 hin
    have hv2 := (mem_stay hk1 hl1).mp hin
    obtain ⟨a1, a2, a3, a4⟩ := hm _ _ _ hv2
    omega
theorem wrap_n {p : Nat} (hp : p < 2 ^ 31) : f_Md_wrapCycle (nI p) = some (nI (p % 64)) := by
  unfold f_Md_wrapCycle
  rw [pk_andN (by omega) 6 (by decide +kernel)]
theorem step_n {ma od rs mo mopd mres mhad : Nat → Int32} (mlat mc mreg mmem mfu mfv mfi md va : Nat → Int32) (hR : RM ma od rs mo mopd mres mhad) : ∃ ma' mo', f_Ma_stepOn ma = some ma' ∧ (if (mo 10) = 63 then f_Mo_makeCycle_222 (upd mo 10 0) mlat mc mreg mmem mopd mres mhad mfu mfv mfi md va else nm ((mo 10) + 1) fun x4 => f_Mo_makeCycle_222 (upd mo 10 x4) mlat mc mreg mmem mopd mres mhad mfu mfv mfi md va) = some (mo', mreg, mmem, mopd, mres, mhad, mfu, mfv, mfi, va) ∧ RM ma' od rs mo' mopd mres mhad ∧ (∀ j, j ≠ 12 → j ≠ 13 → ma' j = ma j) ∧ ∀ j, j ≠ 10 → j ≠ 11 → mo' j = mo j := by
  obtain ⟨r1, r2, r3, r4, r5, ⟨p, hp, r6, r6'⟩, ⟨j, hj, r7, r7', r7''⟩, r8⟩ := hR
  have e1 : (if (mo 10) = 63 then f_Mo_makeCycle_222 (upd mo 10 0) mlat mc mreg mmem mopd mres mhad mfu mfv mfi md va else nm ((mo 10) + 1) fun x4 => f_Mo_makeCycle_222 (upd mo 10 x4) mlat mc mreg mmem mopd mres mhad mfu mfv mfi md va) = f_Mo_makeCycle_222 (upd mo 10 (nI ((p + 1) % 64))) mlat mc mreg mmem mopd mres mhad mfu mfv mfi md va := by
    by_cases h63 : p = 63
    · have : (p + 1) % 64 = 0 := by omega
      rw [this]
      simp (disch := omega) only [lI, nI_add, pk_mul, nI_leI, nI_ltI, nI_eq, ck_n, nm_n, nI_clamp, Option.bind_some, if_pos, if_neg, bk_n0, bk_n1, nI_sub, upd_s, mi_e, mi_ne, mi_ne2, mi_lt, mi_le, mi_nle, mi_nlt, mi_s, bt_shrE, bit_e, true_and, and_true, if_true, if_false, ne_eq, not_true_eq_false, not_false_eq_true, Bool.false_eq_true, Bool.true_eq_false, reduceCtorEq, r6']
    · have : (p + 1) % 64 = p + 1 := by omega
      rw [this]
      simp (disch := omega) only [lI, nI_add, pk_mul, nI_leI, nI_ltI, nI_eq, ck_n, nm_n, nI_clamp, Option.bind_some, if_pos, if_neg, bk_n0, bk_n1, nI_sub, upd_s, mi_e, mi_ne, mi_ne2, mi_lt, mi_le, mi_nle, mi_nlt, mi_s, bt_shrE, bit_e, true_and, and_true, if_true, if_false, ne_eq, not_true_eq_false, not_false_eq_true, Bool.false_eq_true, Bool.true_eq_false, reduceCtorEq, r6']
  rw [e1]
  have u11 : upd mo 10 (nI ((p + 1) % 64)) 11 = nI j := r7'
  unfold f_Ma_stepOn f_Mo_makeCycle_222
  by_cases h0 : j = 0
  · refine ⟨upd ma 12 (nI ((p + 1) % 64)), upd mo 10 (nI ((p + 1) % 64)), ?_, ?_, ⟨r1, r2, r3, r4, r5, ⟨(p + 1) % 64, by omega, rfl, rfl⟩, ⟨j, hj, r7, r7', r7''⟩, r8⟩, fun j h12 _ => upd_n h12, fun j h10 _ => upd_n h10⟩
    · simp (disch := omega) only [lI, nI_add, pk_mul, nI_leI, nI_ltI, nI_eq, ck_n, nm_n, nI_clamp, Option.bind_some, if_pos, if_neg, bk_n0, bk_n1, nI_sub, upd_s, mi_e, mi_ne, mi_ne2, mi_lt, mi_le, mi_nle, mi_nlt, mi_s, bt_shrE, bit_e, true_and, and_true, if_true, if_false, ne_eq, not_true_eq_false, not_false_eq_true, Bool.false_eq_true, Bool.true_eq_false, reduceCtorEq, r6, r7, wrap_n]
    · simp (disch := omega) only [lI, nI_add, pk_mul, nI_leI, nI_ltI, nI_eq, ck_n, nm_n, nI_clamp, Option.bind_some, if_pos, if_neg, bk_n0, bk_n1, nI_sub, upd_s, mi_e, mi_ne, mi_ne2, mi_lt, mi_le, mi_nle, mi_nlt, mi_s, bt_shrE, bit_e, true_and, and_true, if_true, if_false, ne_eq, not_true_eq_false, not_false_eq_true, Bool.false_eq_true, Bool.true_eq_false, reduceCtorEq, u11]
  · obtain ⟨t, ht, e2, e3⟩ := r7'' (by omega)
    have u12 : upd mo 10 (nI ((p + 1) % 64)) 12 = nI t := e3
    by_cases h1 : j = 1
    · refine ⟨upd (upd (upd ma 12 (nI ((p + 1) % 64))) 13 (nI 0)) 12 (nI t), upd (upd (upd mo 10 (nI ((p + 1) % 64))) 11 (nI 0)) 10 (nI t), ?_, ?_, ⟨r1, r2, r3, r4, r5, ⟨t, ht, rfl, rfl⟩, ⟨0, by omega, rfl, rfl, fun h => by omega⟩, r8⟩, fun j h12 h13 => by rw [upd_n h12, upd_n h13, upd_n h12], fun j h10 h11 => by rw [upd_n h10, upd_n h11, upd_n h10]⟩
      · subst h1
        simp (disch := omega) only [lI, nI_add, pk_mul, nI_leI, nI_ltI, nI_eq, ck_n, nm_n, nI_clamp, Option.bind_some, if_pos, if_neg, bk_n0, bk_n1, nI_sub, upd_s, mi_e, mi_ne, mi_ne2, mi_lt, mi_le, mi_nle, mi_nlt, mi_s, bt_shrE, bit_e, true_and, and_true, if_true, if_false, ne_eq, not_true_eq_false, not_false_eq_true, Bool.false_eq_true, Bool.true_eq_false, reduceCtorEq, r6, r7, wrap_n, e2]
      · subst h1
        simp (disch := omega) only [lI, nI_add, pk_mul, nI_leI, nI_ltI, nI_eq, ck_n, nm_n, nI_clamp, Option.bind_some, if_pos, if_neg, bk_n0, bk_n1, nI_sub, upd_s, mi_e, mi_ne, mi_ne2, mi_lt, mi_le, mi_nle, mi_nlt, mi_s, bt_shrE, bit_e, true_and, and_true, if_true, if_false, ne_eq, not_true_eq_false, not_false_eq_true, Bool.false_eq_true, Bool.true_eq_false, reduceCtorEq, u11, u12]
    · refine ⟨upd (upd ma 12 (nI ((p + 1) % 64))) 13 (nI (j - 1)), upd (upd mo 10 (nI ((p + 1) % 64))) 11 (nI (j - 1)), ?_, ?_, ⟨r1, r2, r3, r4, r5, ⟨(p + 1) % 64, by omega, rfl, rfl⟩, ⟨j - 1, by omega, rfl, rfl, fun h => ⟨t, ht, e2, e3⟩⟩, r8⟩, fun j h12 h13 => by rw [upd_n h13, upd_n h12], fun j h10 h11 => by rw [upd_n h11, upd_n h10]⟩
      · simp (disch := omega) only [lI, nI_add, pk_mul, nI_leI, nI_ltI, nI_eq, ck_n, nm_n, nI_clamp, Option.bind_some, if_pos, if_neg, bk_n0, bk_n1, nI_sub, upd_s, mi_e, mi_ne, mi_ne2, mi_lt, mi_le, mi_nle, mi_nlt, mi_s, bt_shrE, bit_e, true_and, and_true, if_true, if_false, ne_eq, not_true_eq_false, not_false_eq_true, Bool.false_eq_true, Bool.true_eq_false, reduceCtorEq, r6, r7, wrap_n]
      · simp (disch := omega) only [lI, nI_add, pk_mul, nI_leI, nI_ltI, nI_eq, ck_n, nm_n, nI_clamp, Option.bind_some, if_pos, if_neg, bk_n0, bk_n1, nI_sub, upd_s, mi_e, mi_ne, mi_ne2, mi_lt, mi_le, mi_nle, mi_nlt, mi_s, bt_shrE, bit_e, true_and, and_true, if_true, if_false, ne_eq, not_true_eq_false, not_false_eq_true, Bool.false_eq_true, Bool.true_eq_false, reduceCtorEq, u11]
