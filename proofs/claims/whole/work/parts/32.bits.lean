-- ===== bits of an int =====
def bt (x : Int32) (i : Nat) : Bool := x.toBitVec.getLsbD i
theorem bt_ge (x : Int32) {i : Nat} (h : 32 ≤ i) : bt x i = false := BitVec.getLsbD_of_ge _ _ h
theorem bt_or (x y : Int32) (i : Nat) : bt (x ||| y) i = (bt x i || bt y i) := by
  unfold bt; rw [Int32.toBitVec_or, BitVec.getLsbD_or]
theorem bt_and (x y : Int32) (i : Nat) : bt (x &&& y) i = (bt x i && bt y i) := by
  unfold bt; rw [Int32.toBitVec_and, BitVec.getLsbD_and]
theorem bt_m1 {i : Nat} (h : i < 32) : bt (-1) i = true := by
  have : ∀ i, i < 32 → bt (-1) i = true := by decide +kernel
  exact this i h
theorem bt_not (x : Int32) {i : Nat} (h : i < 32) : bt (x ^^^ (-1 : Int32)) i = !bt x i := by
  have h1 := bt_m1 h
  unfold bt at h1 ⊢
  rw [Int32.toBitVec_xor, BitVec.getLsbD_xor, h1]; simp
theorem bt_zero (i : Nat) : bt 0 i = false := by
  unfold bt
  show (0#32).getLsbD i = false
  simp
theorem bt_shl {t : Nat} (ht : t < 32) (i : Nat) : bt ((1 : Int32) <<< (nI t &&& 31)) i = decide (i = t) := by
  by_cases hi : i < 32
  · have : ∀ t, t < 32 → ∀ i, i < 32 → bt ((1 : Int32) <<< (nI t &&& 31)) i = decide (i = t) := by decide +kernel
    exact this t ht i hi
  · rw [bt_ge _ (by omega)]
    symm; exact decide_eq_false (by omega)
theorem bt_ext {x y : Int32} (h : ∀ i, i < 32 → bt x i = bt y i) : x = y := by
  apply Int32.toBitVec_inj.mp
  apply BitVec.eq_of_getLsbD_eq
  intro i hi
  exact h i hi
theorem bt_eq0 {x : Int32} : x = 0 ↔ ∀ i, i < 32 → bt x i = false := by
  constructor
  · intro e i _; rw [e]; exact bt_zero i
  · intro h; apply bt_ext; intro i hi; rw [h i hi, bt_zero]
theorem sh_amt : ∀ t, t < 32 → ((nI t &&& 31).toBitVec.smod 32#32).toNat = t := by decide +kernel
theorem bt_shr (x : Int32) {t : Nat} (ht : t < 32) : ((x >>> (nI t &&& 31)) &&& (1 : Int32) = 0) ↔ bt x t = false := by
  have e0 : bt (x >>> (nI t &&& 31)) 0 = bt x t := by
    unfold bt
    rw [Int32.toBitVec_shiftRight]
    show (x.toBitVec.sshiftRight ((nI t &&& 31).toBitVec.smod 32#32).toNat).getLsbD 0 = _
    rw [sh_amt t ht, BitVec.getLsbD_sshiftRight]
    simp [ht]
  constructor
  · intro h
    have := (bt_eq0.mp h) 0 (by omega)
    rw [bt_and, e0] at this
    have h1 : bt 1 0 = true := by decide +kernel
    rw [h1] at this
    simpa using this
  · intro h
    rw [bt_eq0]
    intro i hi
    rw [bt_and]
    by_cases h0 : i = 0
    · subst h0; rw [e0, h]; rfl
    · have : ∀ i, i < 32 → i ≠ 0 → bt 1 i = false := by decide +kernel
      rw [this i hi h0]; simp
theorem bt_shr1 (x : Int32) {t : Nat} (ht : t < 32) : (x >>> (nI t &&& 31)) &&& (1 : Int32) = if bt x t then 1 else 0 := by
  by_cases h : bt x t = true
  · rw [if_pos h]
    apply bt_ext
    intro i hi
    rw [bt_and]
    by_cases h0 : i = 0
    · subst h0
      have h1 : bt 1 0 = true := by decide +kernel
      rw [h1]
      have := mt (bt_shr x ht).mp (by rw [h]; simp)
      by_cases hb : bt (x >>> (nI t &&& 31)) 0 = true
      · rw [hb]; rfl
      · exfalso; apply this
        rw [bt_eq0]; intro j hj; rw [bt_and]
        by_cases hj0 : j = 0
        · subst hj0; simp [hb]
        · have : ∀ i, i < 32 → i ≠ 0 → bt 1 i = false := by decide +kernel
          rw [this j hj hj0]; simp
    · have : ∀ i, i < 32 → i ≠ 0 → bt 1 i = false := by decide +kernel
      rw [this i hi h0]; simp
  · rw [if_neg h]
    exact (bt_shr x ht).mpr (by simpa using h)
theorem bt_nI {m : Nat} {i : Nat} (hi : i < 32) : bt (nI m) i = Nat.testBit m i := by
  unfold bt nI
  show (BitVec.ofNat 32 m).getLsbD i = _
  rw [BitVec.getLsbD_ofNat]; simp [hi]
theorem nI_bv (x : Int32) : x = nI x.toBitVec.toNat := by
  apply Int32.toBitVec_inj.mp
  show x.toBitVec = BitVec.ofNat 32 x.toBitVec.toNat
  simp
theorem bt_small {x : Int32} (k : Nat) (h : ∀ i, k ≤ i → i < 32 → bt x i = false) : ∃ m, m < 2 ^ k ∧ x = nI m ∧ ∀ i, i < 32 → bt x i = Nat.testBit m i := by
  refine ⟨x.toBitVec.toNat, ?_, nI_bv x, fun i hi => ?_⟩
  · apply Nat.lt_pow_two_of_testBit
    intro i hi
    by_cases h32 : i < 32
    · exact h i hi h32
    · exact BitVec.getLsbD_of_ge _ _ (by omega)
  · rfl
theorem bt_63 (x : Int32) : ∃ j, j < 64 ∧ x &&& (63 : Int32) = nI j := pk_andE x 6 (by decide +kernel)
-- ===== bits of a long =====
def bl (x : Int64) (i : Nat) : Bool := x.toBitVec.getLsbD i
theorem bl_ge (x : Int64) {i : Nat} (h : 64 ≤ i) : bl x i = false := BitVec.getLsbD_of_ge _ _ h
theorem bl_or (x y : Int64) (i : Nat) : bl (x ||| y) i = (bl x i || bl y i) := by
  unfold bl; rw [Int64.toBitVec_or, BitVec.getLsbD_or]
theorem bl_and (x y : Int64) (i : Nat) : bl (x &&& y) i = (bl x i && bl y i) := by
  unfold bl; rw [Int64.toBitVec_and, BitVec.getLsbD_and]
theorem bl_m1 {i : Nat} (h : i < 64) : bl (-1) i = true := by
  have : ∀ i, i < 64 → bl (-1) i = true := by decide +kernel
  exact this i h
theorem bl_not (x : Int64) {i : Nat} (h : i < 64) : bl (x ^^^ (-1 : Int64)) i = !bl x i := by
  have h1 := bl_m1 h
  unfold bl at h1 ⊢
  rw [Int64.toBitVec_xor, BitVec.getLsbD_xor, h1]; simp
theorem bl_zero (i : Nat) : bl 0 i = false := by
  unfold bl
  show (0#64).getLsbD i = false
  simp
theorem bl_ext {x y : Int64} (h : ∀ i, i < 64 → bl x i = bl y i) : x = y := by
  apply Int64.toBitVec_inj.mp
  apply BitVec.eq_of_getLsbD_eq
  intro i hi
  exact h i hi
theorem bl_eq0 {x : Int64} : x = 0 ↔ ∀ i, i < 64 → bl x i = false := by
  constructor
  · intro e i _; rw [e]; exact bl_zero i
  · intro h; apply bl_ext; intro i hi; rw [h i hi, bl_zero]
theorem bl_shl1 {t : Nat} (ht : t < 40) (i : Nat) : bl ((1 : Int64) <<< ((nI t).toInt64 &&& 63)) i = decide (i = t) := by
  by_cases hi : i < 64
  · have : ∀ t, t < 40 → ∀ i, i < 64 → bl ((1 : Int64) <<< ((nI t).toInt64 &&& 63)) i = decide (i = t) := by decide +kernel
    exact this t ht i hi
  · rw [bl_ge _ (by omega)]
    symm; exact decide_eq_false (by omega)
theorem shl_amt : ∀ t, t < 64 → (((nI t).toInt64 &&& 63).toBitVec.smod 64#64).toNat = t := by decide +kernel
theorem bl_shl (x : Int64) {t : Nat} (ht : t < 64) {i : Nat} (hi : i < 64) : bl (x <<< ((nI t).toInt64 &&& 63)) i = (decide (t ≤ i) && bl x (i - t)) := by
  unfold bl
  rw [Int64.toBitVec_shiftLeft]
  show (x.toBitVec <<< (((nI t).toInt64 &&& 63).toBitVec.smod 64#64).toNat).getLsbD i = _
  rw [shl_amt t ht, BitVec.getLsbD_shiftLeft]
  by_cases h : t ≤ i
  · have h2 : ¬ i < t := by omega
    simp [hi, h, h2]
  · have h2 : i < t := by omega
    simp [h, h2]
theorem lgc_eq (x y : Int64) : (lg_cmp x y = 0) ↔ x = y := by
  unfold lg_cmp
  by_cases h : x = y
  · subst h
    have : ¬ x > x := Int64.lt_irrefl
    simp [this]
  · by_cases h2 : x > y
    · rw [if_pos h2]; simp [h]
    · rw [if_neg h2, if_neg h]; simp [h]
-- ===== counting =====
def cnt (P : Nat → Bool) : Nat → Nat
  | 0 => 0
  | n + 1 => cnt P n + (if P n then 1 else 0)
theorem cnt_le (P : Nat → Bool) : ∀ n, cnt P n ≤ n
  | 0 => Nat.le_refl 0
  | n + 1 => by
    have := cnt_le P n
    unfold cnt
    split <;> omega
theorem cnt_congr {P Q : Nat → Bool} : ∀ n, (∀ i, i < n → P i = Q i) → cnt P n = cnt Q n
  | 0, _ => rfl
  | n + 1, h => by
    unfold cnt
    rw [cnt_congr n (fun i hi => h i (by omega)), h n (by omega)]
theorem cnt_mono {P Q : Nat → Bool} : ∀ n, (∀ i, i < n → P i = true → Q i = true) → cnt P n ≤ cnt Q n
  | 0, _ => Nat.le_refl 0
  | n + 1, h => by
    have h1 := cnt_mono n (fun i hi => h i (Nat.lt_succ_of_lt hi))
    have h2 := h n (Nat.lt_succ_self n)
    unfold cnt
    by_cases hp : P n = true
    · rw [if_pos hp, if_pos (h2 hp)]; omega
    · rw [if_neg hp]; split <;> omega
theorem cnt_lt {P Q : Nat → Bool} : ∀ n, (∀ i, i < n → P i = true → Q i = true) → ∀ k, k < n → P k = false → Q k = true → cnt P n < cnt Q n
  | 0, _, k, hk, _, _ => by omega
  | n + 1, h, k, hk, hp, hq => by
    have h2 := h n (Nat.lt_succ_self n)
    unfold cnt
    by_cases hkn : k = n
    · subst hkn
      have h1 := cnt_mono k (fun i hi => h i (Nat.lt_succ_of_lt hi))
      rw [if_neg (by simp [hp]), if_pos hq]; omega
    · have h1 := cnt_lt n (fun i hi => h i (Nat.lt_succ_of_lt hi)) k (by omega) hp hq
      by_cases hp : P n = true
      · rw [if_pos hp, if_pos (h2 hp)]; omega
      · rw [if_neg hp]; split <;> omega
theorem cnt_ins {P Q : Nat → Bool} : ∀ n, ∀ k, k < n → P k = false → Q k = true → (∀ i, i < n → i ≠ k → Q i = P i) → cnt Q n = cnt P n + 1
  | 0, k, hk, _, _, _ => by omega
  | n + 1, k, hk, hp, hq, h => by
    unfold cnt
    by_cases hkn : k = n
    · subst hkn
      rw [cnt_congr k (fun i hi => h i (Nat.lt_succ_of_lt hi) (by omega)), if_pos hq, if_neg (by simp [hp])]
    · rw [cnt_ins n k (by omega) hp hq (fun i hi hik => h i (Nat.lt_succ_of_lt hi) hik), h n (Nat.lt_succ_self n) (fun e => hkn e.symm)]
      split <;> omega
theorem cnt_room {P : Nat → Bool} {n k : Nat} (hk : k < n) (hp : P k = false) : cnt P n < n :=
  Nat.lt_of_lt_of_le (cnt_lt (Q := fun _ => true) n (fun _ _ _ => rfl) k hk hp rfl) (cnt_le _ n)
theorem cnt_none : ∀ n, cnt (fun _ => false) n = 0
  | 0 => rfl
  | n + 1 => by unfold cnt; rw [cnt_none n]; rfl
