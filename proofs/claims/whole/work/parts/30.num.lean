-- ===== numbers: what the pure functions are calculated with =====
theorem lI (n : Nat) : (OfNat.ofNat n : Int32) = nI (OfNat.ofNat n : Nat) := by cases n <;> rfl
theorem ck_n {α : Type} {j n : Nat} {k : Option α} (h : j < n) (hn : n < 2 ^ 31) : ck (nI j) n k = k := if_neg (vp_in_nI h hn)
theorem nm_n {α β : Type} (a : α) (k : α → β) : nm a k = k a := rfl
theorem bk_0 {α : Type} {k : Option α} : bk 0 k = k := if_pos (Or.inl rfl)
theorem bk_1 {α : Type} {k : Option α} : bk 1 k = k := if_pos (Or.inr rfl)
theorem nI_m1 {j : Nat} (h : j < 2 ^ 31) : ¬ nI j = -1 := fun e => by
  have h1 := nI_toInt h
  rw [e] at h1
  have h2 : (-1 : Int32).toInt = -1 := by decide
  rw [h2] at h1
  omega
theorem upd_s (f : Nat → Int32) (k : Nat) (x : Int32) : upd f k x k = x := pk_us
theorem upd_n {f : Nat → Int32} {k j : Nat} {x : Int32} (h : j ≠ k) : upd f k x j = f j := pk_un h
/-- a bit of a small number -/
theorem bit_t : ∀ t, t < 16 → ∀ b, b < 4 → (((nI t) >>> (nI b &&& 31)) &&& (1 : Int32) = 0 ↔ Nat.testBit t b = false) := by decide +kernel
theorem bit_or : ∀ t, t < 16 → ∀ b, b < 4 → (nI t) ||| ((1 : Int32) <<< (nI b &&& 31)) = nI (t ||| (1 <<< b)) ∧ (t ||| (1 <<< b)) < 16 ∧ ∀ j, j < 4 → Nat.testBit (t ||| (1 <<< b)) j = (Nat.testBit t j || decide (j = b)) := by decide +kernel
theorem bit_clr : ∀ t, t < 16 → ∀ b, b < 4 → (nI t) &&& (((1 : Int32) <<< (nI b &&& 31)) ^^^ (-1 : Int32)) = nI (t &&& (15 ^^^ (1 <<< b))) ∧ (t &&& (15 ^^^ (1 <<< b))) < 16 ∧ ∀ j, j < 4 → Nat.testBit (t &&& (15 ^^^ (1 <<< b))) j = (Nat.testBit t j && !decide (j = b)) := by decide +kernel
-- ===== the code, as both hold it =====
abbrev KT : Type := Nat → Nat → Option (Nat × Nat × Int32 × Nat)
def KD (K : KT) (ta gu so cn de : Nat → Int32) : Prop := ∀ c, c < 64 → (∃ t, t < 16 ∧ ta c = nI t ∧ ∀ b, b < 4 → Nat.testBit t b = (K c b).isSome) ∧ ∀ b, b < 4 → ∀ g s k d, K c b = some (g, s, k, d) → gu (c * 4 + b) = nI g ∧ so (c * 4 + b) = nI s ∧ cn (c * 4 + b) = k ∧ de (c * 4 + b) = nI d
def KM (K : KT) (mc : Nat → Int32) : Prop := ∀ c, c < 64 → ∀ b, b < 4 → (K c b = none → mc (16 * c + 4 * b) = -1) ∧ ∀ g s k d, K c b = some (g, s, k, d) → mc (16 * c + 4 * b) = nI g ∧ mc (16 * c + 4 * b + 1) = nI s ∧ mc (16 * c + 4 * b + 2) = k ∧ mc (16 * c + 4 * b + 3) = nI d
def KV (B : Nat) (K : KT) : Prop := ∀ c, c < 64 → ∀ b, b < 4 → ∀ g s k d, K c b = some (g, s, k, d) → b < B ∧ g ≤ 8 ∧ s ≤ 11 ∧ d ≤ 25
def BV (B : Nat) : Prop := 2 ≤ B ∧ B ≤ 4
def RC (B : Nat) (K : KT) (ta gu so cn de mc : Nat → Int32) : Prop := BV B ∧ KD K ta gu so cn de ∧ KM K mc ∧ KV B K
theorem reaches_cases {r_co : Nat → Int32} {B : Nat} (hB : r_co 0 = nI B) (hb : BV B) (v1 v2 : Int32) : f_Co_reaches r_co v1 v2 = some 0 ∨ ∃ c b, c < 64 ∧ b < B ∧ v1 = nI c ∧ v2 = nI b ∧ f_Co_reaches r_co v1 v2 = some 1 := by
  unfold f_Co_reaches
  rw [hB]
  have h4 : B ≤ 4 := hb.2
  rcases pk_ix v1 (n := 64) (by omega) with h | h | ⟨c, hc, rfl⟩
  · exact Or.inl (by rw [if_pos h])
  · refine Or.inl ?_
    by_cases h0 : v1 < 0
    · rw [if_pos h0]
    · rw [if_neg h0, if_pos (show (64 : Int32) ≤ v1 from h)]
  · have e1 : ¬ nI c < 0 := nI_pos (by omega)
    have e2 : ¬ (64 : Int32) ≤ nI c := nI_ge (b := 64) hc (by omega)
    rw [if_neg e1, if_neg e2]
    rcases pk_ix v2 (n := B) (by omega) with h | h | ⟨b, hc2, rfl⟩
    · exact Or.inl (by rw [if_pos h])
    · refine Or.inl ?_
      by_cases h0 : v2 < 0
      · rw [if_pos h0]
      · rw [if_neg h0, if_pos h]
    · refine Or.inr ⟨c, b, hc, hc2, rfl, rfl, ?_⟩
      rw [if_neg (nI_pos (by omega)), if_neg (nI_ge hc2 (by omega))]
theorem isPlace_eq {r_mo r_co : Nat → Int32} (h : r_mo 1 = r_co 0) (v1 v2 : Int32) : f_Mo_isPlace r_mo v1 v2 = f_Co_reaches r_co v1 v2 := by
  unfold f_Mo_isPlace f_Co_reaches
  rw [h]
theorem within_cases (v : Int32) {n : Nat} (hn : n < 1000000) : f_Md_isWithin v (nI n) = some 0 ∧ (v < 0 ∨ nI n < v) ∨ ∃ k, k ≤ n ∧ v = nI k ∧ f_Md_isWithin v (nI n) = some 1 := by
  unfold f_Md_isWithin
  rcases pk_ix v (n := n + 1) (by omega) with h | h | ⟨k, hk, rfl⟩
  · exact Or.inl ⟨by rw [if_pos h], Or.inl h⟩
  · have hlt : nI n < v := by
      have h1 : nI n < nI (n + 1) := nI_lt (by omega) (by omega)
      exact Int32.lt_of_lt_of_le h1 h
    refine Or.inl ⟨?_, Or.inr hlt⟩
    by_cases h0 : v < 0
    · rw [if_pos h0]
    · rw [if_neg h0, if_pos hlt]
  · refine Or.inr ⟨k, by omega, rfl, ?_⟩
    rw [if_neg (nI_pos (by omega)), if_neg (nI_nlt (by omega) (by omega))]
theorem at_n (c b : Nat) : f_Mo_at (nI c) (nI b) = some (nI (16 * c + 4 * b)) := by
  show some ((nI 16 * nI c) + (nI 4 * nI b)) = _
  rw [pk_mul, pk_mul, nI_add]
