-- ===== results that are coming =====
abbrev T3 : Type := Nat × Nat × Int32
def AR (mfu mfv mfi : Nat → Int32) (l : List T3) : Prop := ∀ f t, l[f]? = some t → mfu f = nI t.1 ∧ mfi f = nI t.2.1 ∧ mfv f = t.2.2
def code3 (t : T3) : Nat := t.1 * 4 + (t.2.1 - 1)
def PDs (Lt : Nat → Nat) (l : List T3) (sl : Nat) (ma cm mo mfu mfv mfi : Nat → Int32) : Prop :=
  sl < 4 ∧ ma 9 = nI sl ∧ (∀ u, u < 3 → ∀ k, 1 ≤ k → k ≤ 4 → (bt (ma 8) (u * 4 + (sl + k - 1) % 4) = true ↔ ∃ v, (u, k, v) ∈ l)) ∧ (∀ u k v, (u, k, v) ∈ l → u < 3 ∧ 1 ≤ k ∧ k ≤ Lt u ∧ cm (u * 4 + (sl + k - 1) % 4) = v) ∧ (l.map code3).Nodup ∧ mo 15 = nI l.length ∧ AR mfu mfv mfi l
def LL (Lt : Nat → Nat) (lat mlat : Nat → Int32) : Prop := ∀ u, u < 3 → lat u = nI (Lt u) ∧ mlat u = nI (Lt u) ∧ 1 ≤ Lt u ∧ Lt u ≤ 4
theorem cnt_mem : ∀ (l : List Nat) (n : Nat), (∀ x ∈ l, x < n) → l.Nodup → cnt (fun x => decide (x ∈ l)) n = l.length
  | [], n, _, _ => by simpa using cnt_none n
  | a :: l, n, h, hn => by
    rw [List.nodup_cons] at hn
    have ih := cnt_mem l n (fun x hx => h x (List.mem_cons_of_mem _ hx)) hn.2
    rw [List.length_cons, ← ih]
    refine cnt_ins n a (h a (List.mem_cons_self ..)) ?_ ?_ (fun i _ hia => ?_)
    · exact decide_eq_false hn.1
    · exact decide_eq_true (List.mem_cons_self ..)
    · by_cases e : i ∈ l
      · simp [e]
      · simp [e, hia]
theorem len12 {Lt : Nat → Nat} {lat mlat : Nat → Int32} (hL : LL Lt lat mlat) {l : List T3} {sl : Nat} {ma cm mo mfu mfv mfi : Nat → Int32} (h : PDs Lt l sl ma cm mo mfu mfv mfi) : l.length ≤ 12 := by
  have h1 := cnt_mem (l.map code3) 12 (fun x hx => by
    obtain ⟨⟨u, k, v⟩, ht, rfl⟩ := List.mem_map.mp hx
    obtain ⟨a1, a2, a3, _⟩ := h.2.2.2.1 u k v ht
    have := (hL u a1).2.2.2
    simp only [code3]
    omega) h.2.2.2.2.1
  rw [List.length_map] at h1
  rw [← h1]
  exact cnt_le _ 12
theorem begin_n {Lt : Nat → Nat} {lat mlat : Nat → Int32} (hL : LL Lt lat mlat) {l : List T3} {sl : Nat} {ma cm mo mfu mfv mfi : Nat → Int32} (h : PDs Lt l sl ma cm mo mfu mfv mfi) {u : Nat} (hu : u < 3) (hno : ∀ v, (u, Lt u, v) ∉ l) (v : Int32) :
    ∃ y z cm' mfu' mfv' mfi', f_Ma_begin lat ma cm (nI u) v = some (upd ma 8 y, cm') ∧ f_Mo_fly mo mlat mfu mfv mfi (nI u) v = some (upd mo 15 z, mfu', mfv', mfi') ∧ PDs Lt (l ++ [(u, Lt u, v)]) sl (upd ma 8 y) cm' (upd mo 15 z) mfu' mfv' mfi' := by
  have h12 := len12 hL h
  obtain ⟨hsl, e9, hb, hm, hnd, e15, har⟩ := h
  obtain ⟨l1, l2, l3, l4⟩ := hL u hu
  have hx : u * 4 + (sl + Lt u - 1) % 4 < 12 := by omega
  refine ⟨ma 8 ||| bit (u * 4 + (sl + Lt u - 1) % 4), nI (l.length + 1), upd cm (u * 4 + (sl + Lt u - 1) % 4) v, upd mfu l.length (nI u), upd mfv l.length v, upd mfi l.length (nI (Lt u)), ?_, ?_, hsl, e9, ?_, ?_, ?_, ?_, ?_⟩
  · unfold f_Ma_begin
    have e1 : nI sl + nI (Lt u) - nI 1 - (nI sl + nI (Lt u) - nI 1) / nI 4 * nI 4 = nI ((sl + Lt u - 1) % 4) := by
      rw [nI_add, nI_sub (by omega)]
      exact pk_rem (by omega) (by omega) (by omega)
    simp (disch := omega) only [lI, nI_clamp, ck_n, e9, l1, e1]
    simp (disch := omega) only [lI, nI_add, pk_mul, nI_leI, nI_ltI, nI_eq, ck_n, nm_n, nI_clamp, Option.bind_some, if_pos, if_neg, bk_n0, bk_n1, nI_sub, upd_s, mi_e, mi_ne, mi_ne2, mi_lt, mi_le, mi_nle, mi_nlt, mi_s, bt_shrE, bit_e, true_and, and_true, if_true, if_false, ne_eq, not_true_eq_false, not_false_eq_true, Bool.false_eq_true, Bool.true_eq_false, reduceCtorEq]
  · unfold f_Mo_fly
    simp (disch := omega) only [lI, nI_add, pk_mul, nI_leI, nI_ltI, nI_eq, ck_n, nm_n, nI_clamp, Option.bind_some, if_pos, if_neg, bk_n0, bk_n1, nI_sub, upd_s, mi_e, mi_ne, mi_ne2, mi_lt, mi_le, mi_nle, mi_nlt, mi_s, bt_shrE, bit_e, true_and, and_true, if_true, if_false, ne_eq, not_true_eq_false, not_false_eq_true, Bool.false_eq_true, Bool.true_eq_false, reduceCtorEq, e15, l2]
  · intro w hw k hk1 hk4
    show bt (upd ma 8 (ma 8 ||| bit (u * 4 + (sl + Lt u - 1) % 4)) 8) _ = true ↔ _
    rw [upd_s, bt_or, bt_bit (by omega), Bool.or_eq_true, hb w hw k hk1 hk4, decide_eq_true_eq]
    constructor
    · rintro (⟨v', h'⟩ | h')
      · exact ⟨v', List.mem_append_left _ h'⟩
      · have e1 : w = u := by omega
        have e2 : k = Lt u := by omega
        exact ⟨v, List.mem_append_right _ (by rw [e1, e2]; exact List.mem_singleton.mpr rfl)⟩
    · rintro ⟨v', h'⟩
      rcases List.mem_append.mp h' with h' | h'
      · exact Or.inl ⟨v', h'⟩
      · have := List.mem_singleton.mp h'
        simp only [Prod.mk.injEq] at this
        right
        rw [this.1, this.2.1]
  · intro w k v' h'
    rcases List.mem_append.mp h' with h' | h'
    · obtain ⟨a1, a2, a3, a4⟩ := hm w k v' h'
      refine ⟨a1, a2, a3, ?_⟩
      have hne : ¬ (w = u ∧ k = Lt u) := fun e => hno v' (by rw [← e.1]; rw [e.1, ← e.2]; rw [← e.1]; exact h')
      have := (hL w a1).2.2.2
      rw [upd_n (by omega)]; exact a4
    · have := List.mem_singleton.mp h'
      simp only [Prod.mk.injEq] at this
      obtain ⟨rfl, rfl, rfl⟩ := this
      exact ⟨hu, l3, Nat.le_refl _, upd_s _ _ _⟩
  · rw [List.map_append, List.nodup_append]
    refine ⟨hnd, by simp, ?_⟩
    intro a ha b hb'
    obtain ⟨⟨w, k, v'⟩, h', rfl⟩ := List.mem_map.mp ha
    have : b = code3 (u, Lt u, v) := by simpa using hb'
    rw [this]
    intro e
    obtain ⟨a1, a2, a3, a4⟩ := hm w k v' h'
    have l5 := (hL w a1).2.2.2
    simp only [code3] at e
    have e1 : w = u := by omega
    have e2 : k = Lt u := by omega
    rw [e1, e2] at h'
    exact hno v' h'
  · show upd mo 15 (nI (l.length + 1)) 15 = _
    rw [upd_s, List.length_append]; rfl
  · intro f t hf
    by_cases e : f < l.length
    · rw [List.getElem?_append_left e] at hf
      rw [upd_n (by omega), upd_n (by omega), upd_n (by omega)]
      exact har f t hf
    · by_cases e2 : f = l.length
      · subst e2
        rw [List.getElem?_append_right (Nat.le_refl _), Nat.sub_self] at hf
        simp only [List.getElem?_cons_zero, Option.some.injEq] at hf
        rw [← hf, upd_s, upd_s, upd_s]
        exact ⟨rfl, rfl, rfl⟩
      · rw [List.getElem?_append_right (by omega)] at hf
        rw [List.getElem?_eq_none (by simp; omega)] at hf
        cases hf
/-- the unit whose work a destination begins -/
def UN (d : Nat) : Option Nat := if d = 11 ∨ d = 12 then some 0 else if d = 13 then some 1 else if d = 14 then some 2 else none
theorem UN_TG : ∀ d, d < 26 → ∀ e, e < 26 → UN d ≠ none → UN d = UN e → TG d = TG e := by decide +kernel
def BG (M : MT) (Lt : Nat → Nat) (i : Nat) (l : List T3) : Prop := ∀ u v, (u, Lt u, v) ∈ l → ∃ b s k d, b < i ∧ M b = some (s, k, d) ∧ UN d = some u
theorem setG_n (ma : Nat → Int32) {t : Nat} (ht : t < 4) (z : Bool) : f_Ma_setGuard ma (nI t) (b2i z) = some (upd ma 11 (if z = true then ma 11 ||| bit t else ma 11 &&& (bit t ^^^ mi))) := by
  unfold f_Ma_setGuard
  cases z
  · simp (disch := omega) only [lI, nI_add, pk_mul, nI_leI, nI_ltI, nI_eq, ck_n, nm_n, nI_clamp, Option.bind_some, if_pos, if_neg, bk_n0, bk_n1, nI_sub, upd_s, mi_e, mi_ne, mi_ne2, mi_lt, mi_le, mi_nle, mi_nlt, mi_s, bt_shrE, bit_e, true_and, and_true, if_true, if_false, ne_eq, not_true_eq_false, not_false_eq_true, Bool.false_eq_true, Bool.true_eq_false, reduceCtorEq, b2i_0]
  · simp (disch := omega) only [lI, nI_add, pk_mul, nI_leI, nI_ltI, nI_eq, ck_n, nm_n, nI_clamp, Option.bind_some, if_pos, if_neg, bk_n0, bk_n1, nI_sub, upd_s, mi_e, mi_ne, mi_ne2, mi_lt, mi_le, mi_nle, mi_nlt, mi_s, bt_shrE, bit_e, true_and, and_true, if_true, if_false, ne_eq, not_true_eq_false, not_false_eq_true, Bool.false_eq_true, Bool.true_eq_false, reduceCtorEq, b2i_0]
theorem unitOf_n : ∀ d, d < 26 → f_Mo_unitOf (nI d) = some (if d = 11 ∨ d = 12 ∨ (16 ≤ d ∧ d < 24) then nI 0 else if d = 13 then nI 1 else if d = 14 ∨ d = 15 then nI 2 else mi) := by decide +kernel
