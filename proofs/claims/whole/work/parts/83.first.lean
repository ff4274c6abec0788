-- ===== the start =====
theorem clamp_n (x : Int32) {lo hi : Nat} (h : lo ≤ hi) (hh : hi < 1000) : ∃ n, lo ≤ n ∧ n ≤ hi ∧ (if nI lo < (if x < nI hi then x else nI hi) then (if x < nI hi then x else nI hi) else nI lo) = nI n ∧ (nI lo ≤ x → x ≤ nI hi → x = nI n) ∧ (nI lo ≤ x → ¬ x ≤ nI hi → n = hi) ∧ (¬ nI lo ≤ x → n = lo) := by
  rcases pk_ix x (n := hi + 1) (by omega) with hx | hx | ⟨k, hk, rfl⟩
  · have a1 : ¬ nI lo ≤ x := fun z => Int32.not_lt.mpr (Int32.le_trans (nI_pos' (by omega)) z) hx
    have a2 : x < nI hi := Int32.lt_of_lt_of_le hx (nI_pos' (by omega))
    have a3 : ¬ nI lo < x := fun z => a1 (Int32.le_of_lt z)
    exact ⟨lo, Nat.le_refl _, h, by rw [if_pos a2, if_neg a3], fun z => absurd z a1, fun z => absurd z a1, fun _ => rfl⟩
  · have a0 : nI hi < nI (hi + 1) := nI_lt (by omega) (by omega)
    have a1 : nI hi < x := Int32.lt_of_lt_of_le a0 hx
    have a2 : ¬ x ≤ nI hi := Int32.not_le.mpr a1
    have a3 : ¬ x < nI hi := fun z => a2 (Int32.le_of_lt z)
    have a4 : nI lo ≤ x := Int32.le_trans (nI_le h (by omega)) (Int32.le_of_lt a1)
    refine ⟨hi, h, Nat.le_refl _, ?_, fun _ z => absurd z a2, fun _ _ => rfl, fun z => absurd a4 z⟩
    rw [if_neg a3]
    by_cases e : lo < hi
    · rw [if_pos (nI_lt e (by omega))]
    · rw [if_neg (nI_nlt (by omega) (by omega)), show lo = hi by omega]
  · by_cases e : lo ≤ k
    · refine ⟨k, e, by omega, ?_, fun _ _ => rfl, fun _ z => absurd (nI_le (show k ≤ hi by omega) (by omega)) z, fun z => absurd (nI_le e (by omega)) z⟩
      have e1 : (if nI k < nI hi then nI k else nI hi) = nI k := by
        by_cases e2 : k < hi
        · rw [if_pos (nI_lt e2 (by omega))]
        · rw [if_neg (nI_nlt (by omega) (by omega)), show hi = k by omega]
      rw [e1]
      by_cases e3 : lo < k
      · rw [if_pos (nI_lt e3 (by omega))]
      · rw [if_neg (nI_nlt (by omega) (by omega)), show lo = k by omega]
    · have a1 : ¬ nI lo ≤ nI k := nI_ge (by omega) (by omega)
      refine ⟨lo, Nat.le_refl _, h, ?_, fun z => absurd z a1, fun z => absurd z a1, fun _ => rfl⟩
      rw [if_pos (nI_lt (show k < hi by omega) (by omega)), if_neg (nI_nlt (by omega) (by omega))]
-- ===== the masks of ages =====
def awb (u v : Nat) : List Bool := (List.range 64).map (fun a => decide (a < 40) && decide (ag u a = v))
def okm (u v : Nat) (o : Option Int64) : Bool := match o with | none => false | some x => (List.range 64).map (bl x) == awb u v
theorem aw_k : ∀ u, u < 3 → ∀ v, v < 5 → okm u v (f_Ju_agesWhere (nI u) (nI v)) = true := by decide +kernel
theorem aw_n {u v : Nat} (hu : u < 3) (hv : v < 5) : ∃ x, f_Ju_agesWhere (nI u) (nI v) = some x ∧ ∀ a, bl x a = (decide (a < 40) && decide (ag u a = v)) := by
  have h := aw_k u hu v hv
  rcases hx : f_Ju_agesWhere (nI u) (nI v) with _ | x
  · rw [hx] at h; cases h
  · rw [hx] at h
    refine ⟨x, rfl, fun a => ?_⟩
    have h2 : (List.range 64).map (bl x) = awb u v := by simpa [okm] using h
    by_cases ha : a < 64
    · have h3 := congrArg (fun l => l[a]?) h2
      simp only [awb, List.getElem?_map, List.getElem?_range ha, Option.map_some] at h3
      exact Option.some.inj h3
    · rw [bl_ge x (by omega), decide_eq_false (by omega)]; rfl
theorem jinit_n {L : Nat → Nat} {lat : Nat → Int32} (hL : ∀ u, u < 3 → lat u = nI (L u) ∧ L u < 5) : ∃ z, f_Ju_init lat = some z ∧ JR L z.1 z.2 := by
  obtain ⟨x0, a0, b0⟩ := aw_n (u := 0) (v := 0) (by omega) (by omega)
  obtain ⟨x1, a1, b1⟩ := aw_n (u := 1) (v := 0) (by omega) (by omega)
  obtain ⟨x2, a2, b2⟩ := aw_n (u := 2) (v := 0) (by omega) (by omega)
  obtain ⟨y0, c0, d0⟩ := aw_n (u := 0) (v := L 0) (by omega) (hL 0 (by omega)).2
  obtain ⟨y1, c1, d1⟩ := aw_n (u := 1) (v := L 1) (by omega) (hL 1 (by omega)).2
  obtain ⟨y2, c2, d2⟩ := aw_n (u := 2) (v := L 2) (by omega) (hL 2 (by omega)).2
  have l0 := (hL 0 (by omega)).1
  have l1 := (hL 1 (by omega)).1
  have l2 := (hL 2 (by omega)).1
  have s : ∀ (n u : Nat) (p q x y : Nat → Int64) (r1 r2 r3 : Nat → Int32) (r4 r5 : Nat → Int64) (xv yv : Int64), u < 3 → f_Ju_agesWhere (nI u) (nI 0) = some xv → f_Ju_agesWhere (nI u) (lat u) = some yv → f_Ju_init_62 (n + 1) lat r1 r2 r3 r4 r5 p q (nI u) = f_Ju_init_62 n lat r1 r2 r3 r4 r5 (vp_updL p u xv) (vp_updL q u yv) (nI (u + 1)) := fun n u p q x y r1 r2 r3 r4 r5 xv yv hu h1 h2 => by
    have h1' : f_Ju_agesWhere (nI u) 0 = some xv := h1
    rw [f_Ju_init_62, if_neg (show ¬ (3 : Int32) ≤ nI u from nI_ge (b := 3) (by omega) (by omega)), h1', Option.bind_some, ck_n (by omega) (by omega), ck_n (by omega) (by omega), nI_clamp (by omega), h2, Option.bind_some, ck_n (by omega) (by omega), nm_n, nI_1]
  have hfin : f_Ju_init lat = some (vp_updL (vp_updL (vp_updL z64 0 x0) 1 x1) 2 x2, vp_updL (vp_updL (vp_updL z64 0 y0) 1 y1) 2 y2) := by
    have e1 := s 4999 0 z64 z64 z64 z64 z32 z32 z32 z64 z64 x0 y0 (by omega) a0 (by rw [l0]; exact c0)
    have e2 := s 4998 1 (vp_updL z64 0 x0) (vp_updL z64 0 y0) z64 z64 z32 z32 z32 z64 z64 x1 y1 (by omega) a1 (by rw [l1]; exact c1)
    have e3 := s 4997 2 (vp_updL (vp_updL z64 0 x0) 1 x1) (vp_updL (vp_updL z64 0 y0) 1 y1) z64 z64 z32 z32 z32 z64 z64 x2 y2 (by omega) a2 (by rw [l2]; exact c2)
    have e4 : ∀ (n : Nat) (p q : Nat → Int64), f_Ju_init_62 (n + 1) lat z32 z32 z32 z64 z64 p q (nI 3) = some (p, q) := fun n p q => by
      rw [f_Ju_init_62, if_pos (show (3 : Int32) ≤ nI 3 by decide)]
    have e5 := e4 4996 (vp_updL (vp_updL (vp_updL z64 0 x0) 1 x1) 2 x2) (vp_updL (vp_updL (vp_updL z64 0 y0) 1 y1) 2 y2)
    exact e1.trans (e2.trans (e3.trans e5))
  refine ⟨_, hfin, fun u hu a => ?_⟩
  rcases ag_u hu with rfl | rfl | rfl
  · exact ⟨b0 a, d0 a⟩
  · exact ⟨b1 a, d1 a⟩
  · exact ⟨b2 a, d2 a⟩
-- ===== the reference's start =====
theorem minit_lp (r_mo r_mlat r_mreg r_mmem r_mopd r_mres r_mhad r_mfu r_mfv r_mfi r_mopn r_mcpy r_mmade r_mval r_mseen r_mque r_mlaid r_mopt r_mopr : Nat → Int32) : ∀ (d i n : Nat) (mc : Nat → Int32), i + d = 256 → d < n → ∃ mc', f_Mo_init_240 n r_mo r_mlat mc r_mreg r_mmem r_mopd r_mres r_mhad r_mfu r_mfv r_mfi r_mopn r_mcpy r_mmade r_mval r_mseen r_mque r_mlaid r_mopt r_mopr (nI i) = some (r_mo, r_mlat, mc') ∧ (∀ j, i ≤ j → j < 256 → mc' (4 * j) = mi) ∧ ∀ j, j < 4 * i → mc' j = mc j
  | 0, i, n + 1, mc, hi, hn => ⟨mc, by rw [f_Mo_init_240]; simp (disch := omega) only [lI, nI_add, pk_mul, nI_leI, nI_ltI, nI_eq, ck_n, nm_n, nI_clamp, Option.bind_some, if_pos, if_neg, bk_n0, bk_n1, nI_sub, upd_s, mi_e, mi_ne, mi_ne2, mi_lt, mi_le, mi_nle, mi_nlt, mi_s, bt_shrE, bit_e, true_and, and_true, if_true, if_false, ne_eq, not_true_eq_false, not_false_eq_true, Bool.false_eq_true, Bool.true_eq_false, reduceCtorEq], fun j h1 h2 => by omega, fun j hj => rfl⟩
  | d + 1, i, n + 1, mc, hi, hn => by
    obtain ⟨mc', h1, h2, h3⟩ := minit_lp r_mo r_mlat r_mreg r_mmem r_mopd r_mres r_mhad r_mfu r_mfv r_mfi r_mopn r_mcpy r_mmade r_mval r_mseen r_mque r_mlaid r_mopt r_mopr d (i + 1) n (upd mc (4 * i) mi) (by omega) (by omega)
    refine ⟨mc', ?_, fun j hj1 hj2 => ?_, fun j hj => ?_⟩
    · rw [f_Mo_init_240]; simp (disch := omega) only [lI, nI_add, pk_mul, nI_leI, nI_ltI, nI_eq, ck_n, nm_n, nI_clamp, Option.bind_some, if_pos, if_neg, bk_n0, bk_n1, nI_sub, upd_s, mi_e, mi_ne, mi_ne2, mi_lt, mi_le, mi_nle, mi_nlt, mi_s, bt_shrE, bit_e, true_and, and_true, if_true, if_false, ne_eq, not_true_eq_false, not_false_eq_true, Bool.false_eq_true, Bool.true_eq_false, reduceCtorEq, h1]
    · by_cases e : j = i
      · subst e; rw [h3 (4 * j) (by omega), upd_s]
      · exact h2 j (by omega) hj2
    · rw [h3 j (by omega), upd_n (by omega)]
theorem minit_n {x0 x1 x2 : Int32} {B l1 l2 : Nat} (b1 : (2 : Int32) ≤ x0 → x0 ≤ (4 : Int32) → x0 = nI B) (b2 : (2 : Int32) ≤ x0 → ¬ x0 ≤ (4 : Int32) → B = 4) (b3 : ¬ (2 : Int32) ≤ x0 → B = 2) (c1 : (1 : Int32) ≤ x1 → x1 ≤ (4 : Int32) → x1 = nI l1) (c2 : (1 : Int32) ≤ x1 → ¬ x1 ≤ (4 : Int32) → l1 = 4) (c3 : ¬ (1 : Int32) ≤ x1 → l1 = 1) (d1 : (1 : Int32) ≤ x2 → x2 ≤ (3 : Int32) → x2 = nI l2) (d2 : (1 : Int32) ≤ x2 → ¬ x2 ≤ (3 : Int32) → l2 = 3) (d3 : ¬ (1 : Int32) ≤ x2 → l2 = 1) : ∃ mc, f_Mo_init x0 x1 x2 = some (upd (upd z32 24 (-1)) 1 (nI B), upd (upd (upd z32 0 (nI 1)) 1 (nI l1)) 2 (nI l2), mc) ∧ ∀ j, j < 256 → mc (4 * j) = mi := by
  obtain ⟨mc, h1, h2, _⟩ := minit_lp (upd (upd z32 24 (-1)) 1 (nI B)) (upd (upd (upd z32 0 (nI 1)) 1 (nI l1)) 2 (nI l2)) z32 z32 z32 z32 z32 z32 z32 z32 z32 z32 z32 z32 z32 z32 z32 z32 z32 256 0 5000 z32 (by omega) (by omega)
  refine ⟨mc, ?_, fun j hj => h2 j (by omega) hj⟩
  have e237 : f_Mo_init_237 (upd (upd z32 24 (-1)) 1 (nI B)) (upd (upd (upd z32 0 (nI 1)) 1 (nI l1)) 2 (nI l2)) z32 z32 z32 z32 z32 z32 z32 z32 z32 z32 z32 z32 z32 z32 z32 z32 z32 z32 = some (upd (upd z32 24 (-1)) 1 (nI B), upd (upd (upd z32 0 (nI 1)) 1 (nI l1)) 2 (nI l2), mc) := h1
  have k2 : (2 : Int32).toNatClampNeg = 2 := rfl
  have k1 : (1 : Int32).toNatClampNeg = 1 := rfl
  have k0 : (0 : Int32).toNatClampNeg = 0 := rfl
  have q2 : ∀ {α : Type} {k : Option α}, ck (2 : Int32) 3 k = k := fun {α k} => ck_n (j := 2) (by omega) (by omega)
  have q1 : ∀ {α : Type} {k : Option α}, ck (1 : Int32) 3 k = k := fun {α k} => ck_n (j := 1) (by omega) (by omega)
  have q0 : ∀ {α : Type} {k : Option α}, ck (0 : Int32) 3 k = k := fun {α k} => ck_n (j := 0) (by omega) (by omega)
  have e212 : f_Mo_init_212 (upd (upd z32 24 (-1)) 1 (nI B)) (upd (upd z32 0 (nI 1)) 1 (nI l1)) z32 z32 z32 z32 z32 z32 z32 z32 z32 z32 z32 z32 z32 z32 z32 z32 z32 z32 x2 = some (upd (upd z32 24 (-1)) 1 (nI B), upd (upd (upd z32 0 (nI 1)) 1 (nI l1)) 2 (nI l2), mc) := by
    unfold f_Mo_init_212
    rw [k2]
    by_cases g1 : (1 : Int32) ≤ x2
    · rw [if_pos g1]
      by_cases g2 : x2 ≤ (3 : Int32)
      · rw [if_pos g2, q2, d1 g1 g2]; exact e237
      · rw [if_neg g2, q2]
        have e1 : nI l2 = 3 := by rw [d2 g1 g2]; rfl
        rw [e1] at e237 ⊢
        exact e237
    · rw [if_neg g1, q2]
      have e1 : nI l2 = 1 := by rw [d3 g1]; rfl
      rw [e1] at e237 ⊢
      exact e237
  have e180 : f_Mo_init_180 (upd (upd z32 24 (-1)) 1 (nI B)) z32 z32 z32 z32 z32 z32 z32 z32 z32 z32 z32 z32 z32 z32 z32 z32 z32 z32 z32 x1 x2 = some (upd (upd z32 24 (-1)) 1 (nI B), upd (upd (upd z32 0 (nI 1)) 1 (nI l1)) 2 (nI l2), mc) := by
    unfold f_Mo_init_180
    rw [k0, k1, q0]
    by_cases g1 : (1 : Int32) ≤ x1
    · rw [if_pos g1]
      by_cases g2 : x1 ≤ (4 : Int32)
      · rw [if_pos g2, q1, c1 g1 g2]; exact e212
      · rw [if_neg g2, q1]
        have e1 : nI l1 = 4 := by rw [c2 g1 g2]; rfl
        rw [e1] at e212 ⊢
        exact e212
    · rw [if_neg g1, q1]
      have e1 : nI l1 = 1 := by rw [c3 g1]; rfl
      rw [e1] at e212 ⊢
      exact e212
  unfold f_Mo_init f_Mo_init_157
  by_cases g1 : (2 : Int32) ≤ x0
  · rw [if_pos g1]
    by_cases g2 : x0 ≤ (4 : Int32)
    · rw [if_pos g2]
      have e1 := b1 g1 g2
      rw [← e1] at e180 ⊢
      exact e180
    · rw [if_neg g2]
      have e1 : nI B = 4 := by rw [b2 g1 g2]; rfl
      rw [e1] at e180 ⊢
      exact e180
  · rw [if_neg g1]
    have e1 : nI B = 2 := by rw [b3 g1]; rfl
    rw [e1] at e180 ⊢
    exact e180
theorem cell_n {g : GT} (hg : gL g ≤ 3587) {k : Nat} (hk : k < 10) : ∃ x, f_La_cell g (nI k) = some x := by
  unfold f_La_cell
  by_cases h : gL g ≤ k
  · exact ⟨0, if_pos (show nI (gL g) ≤ nI k from nI_le h (by omega))⟩
  · refine ⟨gx g (nI k).toNatClampNeg, ?_⟩
    rw [if_neg (show ¬ Int32.ofNat (gL g) ≤ nI k from nI_ge (by omega) (by omega)), ck_g hg (by omega)]
