-- ===== a cycle made =====
theorem zero_read (r_co so cn ma wo rs ca : Nat → Int32) : ∀ (d i n : Nat), i + d = 4 → d < n → f_Ma_readSources_2 n r_co so cn ma wo rs ca (nI 0) (nI i) = some ca
  | 0, i, n + 1, hi, hn => by rw [f_Ma_readSources_2]; simp (disch := omega) only [lI, nI_add, pk_mul, nI_leI, nI_ltI, nI_eq, ck_n, nm_n, nI_clamp, Option.bind_some, if_pos, if_neg, bk_n0, bk_n1, nI_sub, upd_s, mi_e, mi_ne, mi_ne2, mi_lt, mi_le, mi_nle, mi_nlt, mi_s, bt_shrE, bit_e, true_and, and_true, if_true, if_false, ne_eq, not_true_eq_false, not_false_eq_true, Bool.false_eq_true, Bool.true_eq_false, reduceCtorEq]
  | d + 1, i, n + 1, hi, hn => by
    have ih := zero_read r_co so cn ma wo rs ca d (i + 1) n (by omega) (by omega)
    have hb : bt (nI 0) i = false := bt_zero i
    rw [f_Ma_readSources_2]; unfold f_Ma_readSources_49; simp (disch := omega) only [lI, nI_add, pk_mul, nI_leI, nI_ltI, nI_eq, ck_n, nm_n, nI_clamp, Option.bind_some, if_pos, if_neg, bk_n0, bk_n1, nI_sub, upd_s, mi_e, mi_ne, mi_ne2, mi_lt, mi_le, mi_nle, mi_nlt, mi_s, bt_shrE, bit_e, true_and, and_true, if_true, if_false, ne_eq, not_true_eq_false, not_false_eq_true, Bool.false_eq_true, Bool.true_eq_false, reduceCtorEq, has_n, hb, b2i_0, ih]
theorem zero_write (r_co de ma wo od ca : Nat → Int32) : ∀ (d i n : Nat), i + d = 4 → d < n → f_Ma_writePlaces_2 n r_co de ma wo od ca (nI 0) (nI i) = some (wo, od)
  | 0, i, n + 1, hi, hn => by rw [f_Ma_writePlaces_2]; simp (disch := omega) only [lI, nI_add, pk_mul, nI_leI, nI_ltI, nI_eq, ck_n, nm_n, nI_clamp, Option.bind_some, if_pos, if_neg, bk_n0, bk_n1, nI_sub, upd_s, mi_e, mi_ne, mi_ne2, mi_lt, mi_le, mi_nle, mi_nlt, mi_s, bt_shrE, bit_e, true_and, and_true, if_true, if_false, ne_eq, not_true_eq_false, not_false_eq_true, Bool.false_eq_true, Bool.true_eq_false, reduceCtorEq]
  | d + 1, i, n + 1, hi, hn => by
    have ih := zero_write r_co de ma wo od ca d (i + 1) n (by omega) (by omega)
    have hb : bt (nI 0) i = false := bt_zero i
    rw [f_Ma_writePlaces_2]; unfold f_Ma_writePlaces_33 f_Ma_writePlaces_75; simp (disch := omega) only [lI, nI_add, pk_mul, nI_leI, nI_ltI, nI_eq, ck_n, nm_n, nI_clamp, Option.bind_some, if_pos, if_neg, bk_n0, bk_n1, nI_sub, upd_s, mi_e, mi_ne, mi_ne2, mi_lt, mi_le, mi_nle, mi_nlt, mi_s, bt_shrE, bit_e, true_and, and_true, if_true, if_false, ne_eq, not_true_eq_false, not_false_eq_true, Bool.false_eq_true, Bool.true_eq_false, reduceCtorEq, has_n, hb, b2i_0, ih]
theorem zero_pull (lat r_co de ma wo od ca cm : Nat → Int32) : ∀ (d i n : Nat), i + d = 4 → d < n → f_Ma_pullTriggers_2 n lat r_co de ma wo od ca cm (nI 0) (nI i) = some (ma, wo, cm)
  | 0, i, n + 1, hi, hn => by rw [f_Ma_pullTriggers_2]; simp (disch := omega) only [lI, nI_add, pk_mul, nI_leI, nI_ltI, nI_eq, ck_n, nm_n, nI_clamp, Option.bind_some, if_pos, if_neg, bk_n0, bk_n1, nI_sub, upd_s, mi_e, mi_ne, mi_ne2, mi_lt, mi_le, mi_nle, mi_nlt, mi_s, bt_shrE, bit_e, true_and, and_true, if_true, if_false, ne_eq, not_true_eq_false, not_false_eq_true, Bool.false_eq_true, Bool.true_eq_false, reduceCtorEq]
  | d + 1, i, n + 1, hi, hn => by
    have ih := zero_pull lat r_co de ma wo od ca cm d (i + 1) n (by omega) (by omega)
    have hb : bt (nI 0) i = false := bt_zero i
    rw [f_Ma_pullTriggers_2]; unfold f_Ma_pullTriggers_37; simp (disch := omega) only [lI, nI_add, pk_mul, nI_leI, nI_ltI, nI_eq, ck_n, nm_n, nI_clamp, Option.bind_some, if_pos, if_neg, bk_n0, bk_n1, nI_sub, upd_s, mi_e, mi_ne, mi_ne2, mi_lt, mi_le, mi_nle, mi_nlt, mi_s, bt_shrE, bit_e, true_and, and_true, if_true, if_false, ne_eq, not_true_eq_false, not_false_eq_true, Bool.false_eq_true, Bool.true_eq_false, reduceCtorEq, has_n, hb, b2i_0, ih]
/-- what lies behind the fault's test -/
def goC (lat r_co ta gu so cn de ma bu wo od rs ca cm : Nat → Int32) (x : Int32) : Option (Int32 × (Nat → Int32) × (Nat → Int32) × (Nat → Int32) × (Nat → Int32) × (Nat → Int32) × (Nat → Int32) × (Nat → Int32)) := f_Ma_tryCycle_60 lat r_co ta gu so cn de ma bu wo od rs ca cm x (nI 0)
theorem goC_0 (lat r_co ta gu so cn de ma bu wo od rs ca cm : Nat → Int32) : f_Ma_tryCycle_81 lat r_co ta gu so cn de ma bu wo od rs ca cm = goC lat r_co ta gu so cn de ma bu wo od rs ca cm (nI 0) := by
  unfold goC f_Ma_tryCycle_60 f_Ma_readSources f_Ma_writePlaces f_Ma_pullTriggers
  simp (disch := omega) only [lI, nI_add, pk_mul, nI_leI, nI_ltI, nI_eq, ck_n, nm_n, nI_clamp, Option.bind_some, if_pos, if_neg, bk_n0, bk_n1, nI_sub, upd_s, mi_e, mi_ne, mi_ne2, mi_lt, mi_le, mi_nle, mi_nlt, mi_s, bt_shrE, bit_e, true_and, and_true, if_true, if_false, ne_eq, not_true_eq_false, not_false_eq_true, Bool.false_eq_true, Bool.true_eq_false, reduceCtorEq, zero_read _ _ _ _ _ _ _ 4 0 5000 (by omega) (by omega), zero_write _ _ _ _ _ _ 4 0 5000 (by omega) (by omega), zero_pull _ _ _ _ _ _ _ _ 4 0 5000 (by omega) (by omega)]
theorem cycle_go {Lt : Nat → Nat} {M : MT} {c : Nat} {r_co ta gu lat so cn de mlat mc ma bu wo od rs ca cm mo mreg mmem mopd mres mhad mfu mfv mfi md va : Nat → Int32} {x : Int32} (hL : LL Lt lat mlat) (h : MC M c so cn de mc) (hc : c < 64) (hx : MK M x) (hm : MD M md) (hcl : clash M 4 = false) (hp : ma 12 = nI c) (hp2 : mo 10 = nI c) (hR : RM ma od rs mo mopd mres mhad) (hW : RW wo mreg mmem) (hP : PDR Lt ma cm mo mfu mfv mfi) :
    ∃ ma' wo' od' rs' ca' cm' mo' mreg' mmem' mopd' mres' mhad' mfu' mfv' mfi' va', goC lat r_co ta gu so cn de ma bu wo od rs ca cm x = some (nI 0, ma', bu, wo', od', rs', ca', cm') ∧ f_Mo_makeCycle mo mlat mc mreg mmem mopd mres mhad mfu mfv mfi md va = some (mo', mreg', mmem', mopd', mres', mhad', mfu', mfv', mfi', va') ∧ RM ma' od' rs' mo' mopd' mres' mhad' ∧ RW wo' mreg' mmem' ∧ PDR Lt ma' cm' mo' mfu' mfv' mfi' ∧ ∀ j, j ≠ 9 → j ≠ 10 → j ≠ 11 → j ≠ 12 → j ≠ 14 → j ≠ 15 → mo' j = mo j := by
  obtain ⟨l, sl, hP, hno⟩ := hP
  obtain ⟨ca', a1, a2, _⟩ := readS_lp (r_co := r_co) (wo := wo) (rs := rs) h hc hx hp 4 0 5000 ca (by omega) (by omega)
  obtain ⟨va', b1, b2⟩ := mread_lp (mo := mo) (mlat := mlat) (mopd := mopd) (mhad := mhad) (mfu := mfu) (mfv := mfv) (mfi := mfi) h hc hm hW hR.2.1 4 0 5000 va (by omega) (by omega) (fun b hb => by omega)
  have hv : ∀ b, b < 4 → (M b).isSome = true → ca' b = va' b := fun b hb hs => by
    rcases hM : M b with _ | ⟨s, k, d⟩
    · rw [hM] at hs; cases hs
    · rw [a2 b (by omega) hb s k d hM, b1 b hb s k d hM]
  obtain ⟨wo1, od1, mreg1, mopd1, c1, c2, c3, c4⟩ := writeP_lp (r_co := r_co) (mo := mo) (mlat := mlat) (mmem := mmem) (mres := mres) (mhad := mhad) (mfu := mfu) (mfv := mfv) (mfi := mfi) h hc hx hm hp hv 4 0 5000 5000 wo od mreg mopd (by omega) (by omega) (by omega) hW hR.1
  have hR1 : RM ma od1 rs mo mopd1 mres mhad := ⟨c4, hR.2⟩
  obtain ⟨ma2, wo2, cm2, mo2, mmem2, mfu2, mfv2, mfi2, l2, n2, d1, d2, d3, d4, d5, d6, d7⟩ := trigs_lp (r_co := r_co) (va := va') hL h hc hx hm hv hcl 4 0 5000 5000 ma wo1 cm mo mmem mfu mfv mfi l (by omega) (by omega) (by omega) hp hR1 c3 hP (fun u v hin => absurd hin (hno u v))
  obtain ⟨ma3, rs3, mo3, mres3, mhad3, mfu3, mfv3, mfi3, e1, e2, e3, e4, e5⟩ := deliver_land hL d5 d3
  obtain ⟨ma4, mo4, f1, f2, f3, f4, f5⟩ := step_n mlat mc mreg1 mmem2 mfu3 mfv3 mfi3 md va' e3
  refine ⟨ma4, wo2, od1, rs3, ca', cm2, mo4, mreg1, mmem2, mopd1, mres3, mhad3, mfu3, mfv3, mfi3, va', ?_, ?_, f3, d4, ?_, fun j h9 h10 h11 h12 h14 h15 => ?_⟩
  · unfold goC f_Ma_tryCycle_60 f_Ma_tryCycle_81 f_Ma_readSources f_Ma_writePlaces f_Ma_pullTriggers
    simp (disch := omega) only [lI, nI_add, pk_mul, nI_leI, nI_ltI, nI_eq, ck_n, nm_n, nI_clamp, Option.bind_some, if_pos, if_neg, bk_n0, bk_n1, nI_sub, upd_s, mi_e, mi_ne, mi_ne2, mi_lt, mi_le, mi_nle, mi_nlt, mi_s, bt_shrE, bit_e, true_and, and_true, if_true, if_false, ne_eq, not_true_eq_false, not_false_eq_true, Bool.false_eq_true, Bool.true_eq_false, reduceCtorEq, a1, c1, d1, e1, f1]
  · unfold f_Mo_makeCycle
    rw [hp2, nm_n, show (0 : Int32) = nI 0 from rfl, b2, c2, d2, f_Mo_makeCycle_136]
    simp only [show (4 : Int32) = nI 4 from rfl, if_pos (nI_le (Nat.le_refl 4) (show 4 < 2 ^ 31 by omega)), e2, Option.bind_some]
    exact f2
  · obtain ⟨l4, sl4, ⟨q1, q2, q3, q4, q5, q6, q7⟩, q8⟩ := e4
    refine ⟨l4, sl4, ⟨q1, ?_, ?_, q4, q5, ?_, q7⟩, q8⟩
    · rw [f4 9 (by omega) (by omega)]; exact q2
    · rw [f4 8 (by omega) (by omega)]; exact q3
    · rw [f5 15 (by omega) (by omega)]; exact q6
  · rw [f5 j h10 h11, e5 j h15, d7 j h9 h11 h12 h14 h15]
-- ===== a run =====
theorem hads_n (mo mhad : Nat → Int32) {x : Int32} (h : ∀ u, u < 3 → mhad u = if bt x u = true then nI 1 else nI 0) : ∃ y, f_Mo_hads mo mhad = some y ∧ ∀ u, u < 3 → bt y u = bt x u := by
  have h0 := h 0 (by omega)
  have h1 := h 1 (by omega)
  have h2 := h 2 (by omega)
  unfold f_Mo_hads
  have k : ∀ a b c : Bool, ∃ y, (if (if a = true then nI 1 else nI 0) = (0 : Int32) then (if (if b = true then nI 1 else nI 0) = (0 : Int32) then (if (if c = true then nI 1 else nI 0) = (0 : Int32) then some (((0 : Int32) ||| 0) ||| 0) else some (((0 : Int32) ||| 0) ||| 4)) else (if (if c = true then nI 1 else nI 0) = (0 : Int32) then some (((0 : Int32) ||| 2) ||| 0) else some (((0 : Int32) ||| 2) ||| 4))) else (if (if b = true then nI 1 else nI 0) = (0 : Int32) then (if (if c = true then nI 1 else nI 0) = (0 : Int32) then some (((1 : Int32) ||| 0) ||| 0) else some (((1 : Int32) ||| 0) ||| 4)) else (if (if c = true then nI 1 else nI 0) = (0 : Int32) then some (((1 : Int32) ||| 2) ||| 0) else some (((1 : Int32) ||| 2) ||| 4)))) = some y ∧ bt y 0 = a ∧ bt y 1 = b ∧ bt y 2 = c := by
    intro a b c
    cases a <;> cases b <;> cases c <;> exact ⟨_, rfl, by decide +kernel, by decide +kernel, by decide +kernel⟩
  obtain ⟨y, q1, q2, q3, q4⟩ := k (bt x 0) (bt x 1) (bt x 2)
  refine ⟨y, ?_, fun u hu => ?_⟩
  · have c0 : (0 : Int32).toNatClampNeg = 0 := by decide
    have c1 : (1 : Int32).toNatClampNeg = 1 := by decide
    have c2 : (2 : Int32).toNatClampNeg = 2 := by decide
    have k0 : ∀ {α : Type} {k : Option α}, ck 0 3 k = k := fun {α k} => ck_n (j := 0) (by omega) (by omega)
    have k1 : ∀ {α : Type} {k : Option α}, ck 1 3 k = k := fun {α k} => ck_n (j := 1) (by omega) (by omega)
    have k2 : ∀ {α : Type} {k : Option α}, ck 2 3 k = k := fun {α k} => ck_n (j := 2) (by omega) (by omega)
    simp only [k0, k1, k2, c0, c1, c2, h0, h1, h2]
    exact q1
  · rcases (show u = 0 ∨ u = 1 ∨ u = 2 by omega) with rfl | rfl | rfl
    · exact q2
    · exact q3
    · exact q4
theorem FTb_congr {M : MT} {h h' : Nat → Bool} (e : ∀ u, u < 3 → h u = h' u) (j : Bool) : FTb M h j = FTb M h' j := by
  have : noRes M h = noRes M h' := by
    apply Bool.eq_iff_iff.mpr
    unfold noRes
    rw [anyM_iff, anyM_iff]
    constructor
    · rintro ⟨b, q, h1, h2, h3⟩
      simp only [Bool.and_eq_true, decide_eq_true_eq] at h3
      refine ⟨b, q, h1, h2, ?_⟩
      simp only [Bool.and_eq_true, decide_eq_true_eq]
      rw [← e (q.1 - 8) (by omega)]; exact h3
    · rintro ⟨b, q, h1, h2, h3⟩
      simp only [Bool.and_eq_true, decide_eq_true_eq] at h3
      refine ⟨b, q, h1, h2, ?_⟩
      simp only [Bool.and_eq_true, decide_eq_true_eq]
      rw [e (q.1 - 8) (by omega)]; exact h3
  unfold FTb
  rw [this]
theorem FTb_0 {M : MT} {h : Nat → Bool} {j : Bool} (e : FTb M h j = 0) : clash M 4 = false := by
  unfold FTb at e
  rcases hc : clash M 4 with _ | _
  · rfl
  · rw [hc] at e; simp at e
theorem any_empty {P : Nat × Int32 × Nat → Bool} {M : MT} (h : ∀ b, b < 4 → M b = none) : anyM P M 4 = false := by
  rw [Bool.eq_false_iff]
  intro hn
  obtain ⟨b, q, h1, h2, _⟩ := (anyM_iff 4).mp hn
  rw [h b h1] at h2; cases h2
theorem FTb_empty {M : MT} (h : ∀ b, b < 4 → M b = none) (x : Nat → Bool) (j : Bool) : FTb M x j = 0 := by
  have e0 := h 0 (by omega)
  have e1 := h 1 (by omega)
  have e2 := h 2 (by omega)
  have e3 := h 3 (by omega)
  have c : clash M 4 = false := by rw [clash_p]; simp [pcl, e0, e1, e2]
  have w : wrM M 4 = 0 := by simp [wrM, e0, e1, e2, e3]
  have m : much M = false := by
    unfold much
    have : cnt (rdM M 4) 8 = 0 := by
      exact (cnt_congr 8 (P := rdM M 4) (Q := fun _ => false) (fun i _ => any_empty h)).trans (cnt_none 8)
    rw [this, w]; rfl
  unfold FTb noRes
  rw [c, any_empty h, any_empty h, m]
  cases j <;> rfl
