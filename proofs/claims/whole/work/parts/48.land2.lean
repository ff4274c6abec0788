def dec3 (t : T3) : T3 := (t.1, t.2.1 - 1, t.2.2)
def stay (R : List T3) : List T3 := (R.filter (fun t => !(t.2.1 == 1))).map dec3
theorem stay_cons1 {t : T3} {R : List T3} (h : t.2.1 = 1) : stay (t :: R) = stay R := by
  unfold stay; rw [List.filter_cons_of_neg (by simp [h])]
theorem stay_consn {t : T3} {R : List T3} (h : t.2.1 ≠ 1) : stay (t :: R) = dec3 t :: stay R := by
  unfold stay; rw [List.filter_cons_of_pos (by simp [h]), List.map_cons]
theorem land_lp {mo : Nat → Int32} {F : Nat} (hF : F ≤ 12) (h15 : mo 15 = nI F) : ∀ (R l : List T3) (i n : Nat) (mres mhad mfu mfv mfi : Nat → Int32), l.length ≤ i → i + R.length = F → R.length < n → AR mfu mfv mfi l → (∀ f t, R[f]? = some t → mfu (i + f) = nI t.1 ∧ mfi (i + f) = nI t.2.1 ∧ mfv (i + f) = t.2.2) → (∀ t ∈ R, t.1 < 3 ∧ 1 ≤ t.2.1 ∧ t.2.1 ≤ 4) → ∃ mres' mhad' mfu' mfv' mfi', f_Mo_land_4 n mo mres mhad mfu mfv mfi (nI l.length) (nI i) = some (upd mo 15 (nI (l ++ stay R).length), mres', mhad', mfu', mfv', mfi') ∧ AR mfu' mfv' mfi' (l ++ stay R) ∧ ∀ u, u < 3 → ((∀ v, (u, 1, v) ∉ R) → mres' u = mres u ∧ mhad' u = mhad u) ∧ ∀ v, (u, 1, v) ∈ R → (∀ v', (u, 1, v') ∈ R → v' = v) → mres' u = v ∧ mhad' u = nI 1
  | [], l, i, n + 1, mres, mhad, mfu, mfv, mfi, hl, hi, hn, ha, hr, hb => by
    simp only [List.length_nil] at hi
    refine ⟨mres, mhad, mfu, mfv, mfi, ?_, ?_, fun u hu => ⟨fun _ => ⟨rfl, rfl⟩, fun v hv => absurd hv (by simp)⟩⟩
    · rw [f_Mo_land_4]
      simp (disch := omega) only [lI, nI_add, pk_mul, nI_leI, nI_ltI, nI_eq, ck_n, nm_n, nI_clamp, Option.bind_some, if_pos, if_neg, bk_n0, bk_n1, nI_sub, upd_s, mi_e, mi_ne, mi_ne2, mi_lt, mi_le, mi_nle, mi_nlt, mi_s, bt_shrE, bit_e, true_and, and_true, if_true, if_false, ne_eq, not_true_eq_false, not_false_eq_true, Bool.false_eq_true, Bool.true_eq_false, reduceCtorEq, h15]
      simp [stay]
    · simpa [stay] using ha
  | t :: R, l, i, n + 1, mres, mhad, mfu, mfv, mfi, hl, hi, hn, ha, hr, hb => by
    rw [List.length_cons] at hi hn
    obtain ⟨c1, c2, c3⟩ := hr 0 t rfl
    rw [Nat.add_zero] at c1 c2 c3
    obtain ⟨b1, b2, b3⟩ := hb t (List.mem_cons_self ..)
    rw [f_Mo_land_4]
    unfold f_Mo_land_102
    have hb' : ∀ t ∈ R, t.1 < 3 ∧ 1 ≤ t.2.1 ∧ t.2.1 ≤ 4 := fun t' ht' => hb t' (List.mem_cons_of_mem _ ht')
    by_cases h1 : t.2.1 = 1
    · simp (disch := omega) only [lI, nI_add, pk_mul, nI_leI, nI_ltI, nI_eq, ck_n, nm_n, nI_clamp, Option.bind_some, if_pos, if_neg, bk_n0, bk_n1, nI_sub, upd_s, mi_e, mi_ne, mi_ne2, mi_lt, mi_le, mi_nle, mi_nlt, mi_s, bt_shrE, bit_e, true_and, and_true, if_true, if_false, ne_eq, not_true_eq_false, not_false_eq_true, Bool.false_eq_true, Bool.true_eq_false, reduceCtorEq, h15, c2, c1, c3, h1]
      obtain ⟨mres', mhad', mfu', mfv', mfi', q1, q2, q3⟩ := land_lp hF h15 R l (i + 1) n (upd mres t.1 t.2.2) (upd mhad t.1 (nI 1)) mfu mfv (upd mfi i (nI (t.2.1 - 1))) (by omega) (by omega) (by omega) (fun f t' hf => by
        have hfl : f < l.length := by
          rcases Nat.lt_or_ge f l.length with h | h
          · exact h
          · rw [List.getElem?_eq_none h] at hf; cases hf
        rw [upd_n (by omega)]; exact ha f t' hf) (fun f t' hf => by
        rw [upd_n (by omega)]
        have := hr (f + 1) t' hf
        rw [show i + (f + 1) = i + 1 + f by omega] at this
        exact this) hb'
      rw [h1] at q1
      refine ⟨mres', mhad', mfu', mfv', mfi', by rw [stay_cons1 h1]; exact q1, by rw [stay_cons1 h1]; exact q2, fun u hu => ⟨fun hno => ?_, fun v hv huq => ?_⟩⟩
      · have hne : u ≠ t.1 := fun e => hno t.2.2 (by rw [e, ← h1]; exact List.mem_cons_self ..)
        obtain ⟨r1, r2⟩ := (q3 u hu).1 (fun v hv => hno v (List.mem_cons_of_mem _ hv))
        rw [r1, r2, upd_n hne, upd_n hne]; exact ⟨rfl, rfl⟩
      · by_cases hin : ∃ v', (u, 1, v') ∈ R
        · obtain ⟨v', hv'⟩ := hin
          have e1 : v' = v := huq v' (List.mem_cons_of_mem _ hv')
          subst e1
          exact (q3 u hu).2 v' hv' (fun w hw => huq w (List.mem_cons_of_mem _ hw))
        · have hno : ∀ v', (u, 1, v') ∉ R := fun v' hv' => hin ⟨v', hv'⟩
          obtain ⟨r1, r2⟩ := (q3 u hu).1 hno
          rcases List.mem_cons.mp hv with e | e
          · rw [r1, r2]
            have : t.1 = u := by rw [← e]
            have e2 : t.2.2 = v := by rw [← e]
            rw [← this, upd_s, upd_s]
            exact ⟨e2, rfl⟩
          · exact absurd e (hno v)
    · have h1' : ¬ nI (t.2.1 - 1) = nI 0 := by
        rw [nI_eq (by omega) (by omega)]; omega
      simp (disch := omega) only [lI, nI_add, pk_mul, nI_leI, nI_ltI, nI_eq, ck_n, nm_n, nI_clamp, Option.bind_some, if_pos, if_neg, bk_n0, bk_n1, nI_sub, upd_s, mi_e, mi_ne, mi_ne2, mi_lt, mi_le, mi_nle, mi_nlt, mi_s, bt_shrE, bit_e, true_and, and_true, if_true, if_false, ne_eq, not_true_eq_false, not_false_eq_true, Bool.false_eq_true, Bool.true_eq_false, reduceCtorEq, h15, c2, c1, c3, h1']
      obtain ⟨mres', mhad', mfu', mfv', mfi', q1, q2, q3⟩ := land_lp hF h15 R (l ++ [dec3 t]) (i + 1) n mres mhad (upd mfu l.length (nI t.1)) (upd mfv l.length t.2.2) (upd (upd mfi i (nI (t.2.1 - 1))) l.length (nI (t.2.1 - 1))) (by rw [List.length_append]; simp; omega) (by omega) (by omega) (fun f t' hf => by
        by_cases hfl : f < l.length
        · rw [List.getElem?_append_left hfl] at hf
          rw [upd_n (by omega), upd_n (by omega), upd_n (by omega), upd_n (by omega)]
          exact ha f t' hf
        · by_cases e2 : f = l.length
          · subst e2
            rw [List.getElem?_append_right (Nat.le_refl _), Nat.sub_self] at hf
            simp only [List.getElem?_cons_zero, Option.some.injEq] at hf
            rw [← hf, upd_s, upd_s, upd_s]
            exact ⟨rfl, rfl, rfl⟩
          · rw [List.getElem?_append_right (by omega)] at hf
            rw [List.getElem?_eq_none (by simp; omega)] at hf
            cases hf) (fun f t' hf => by
        rw [upd_n (by omega), upd_n (by omega), upd_n (by omega), upd_n (by omega)]
        have := hr (f + 1) t' hf
        rw [show i + (f + 1) = i + 1 + f by omega] at this
        exact this) hb'
      have el : (l ++ [dec3 t]) ++ stay R = l ++ stay (t :: R) := by rw [stay_consn h1]; simp
      rw [el] at q1 q2
      have el2 : (l ++ [dec3 t]).length = l.length + 1 := by simp
      rw [el2] at q1
      refine ⟨mres', mhad', mfu', mfv', mfi', q1, q2, fun u hu => ⟨fun hno => (q3 u hu).1 (fun v hv => hno v (List.mem_cons_of_mem _ hv)), fun v hv huq => ?_⟩⟩
      rcases List.mem_cons.mp hv with e | e
      · exact absurd (by rw [← e]) h1
      · exact (q3 u hu).2 v e (fun w hw => huq w (List.mem_cons_of_mem _ hw))
theorem mem_stay {R : List T3} {u k : Nat} {v : Int32} (hk : 1 ≤ k) (hR : ∀ t ∈ R, 1 ≤ t.2.1) : (u, k, v) ∈ stay R ↔ (u, k + 1, v) ∈ R := by
  unfold stay
  rw [List.mem_map]
  constructor
  · rintro ⟨⟨a, b, w⟩, h1, h2⟩
    rw [List.mem_filter] at h1
    have h3 := hR _ h1.1
    simp only [dec3, Prod.mk.injEq] at h2 h3
    obtain ⟨rfl, e, rfl⟩ := h2
    have : b = k + 1 := by omega
    rw [← this]; exact h1.1
  · intro h
    refine ⟨(u, k + 1, v), List.mem_filter.mpr ⟨h, ?_⟩, rfl⟩
    have : ¬ k + 1 = 1 := by omega
    simp [this]
    omega
