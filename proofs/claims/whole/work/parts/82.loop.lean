-- ===== the law's loop =====
theorem len7 : ∀ l, l < 7 → nI l - (7 : Int32) < 0 := by decide +kernel
theorem len_c {l i : Nat} (hl : l ≤ 3587) (hi : i ≤ 4000) : (nI l - (7 : Int32) < nI i ∧ l < i + 7) ∨ (¬ nI l - (7 : Int32) < nI i ∧ i + 7 ≤ l) := by
  by_cases h : l < 7
  · exact Or.inl ⟨Int32.lt_of_lt_of_le (len7 l h) (nI_pos' (by omega)), by omega⟩
  · have e : nI l - (7 : Int32) = nI (l - 7) := nI_sub (b := 7) (by omega)
    rw [e, nI_ltI (by omega) (by omega)]
    omega
set_option maxRecDepth 4000 in
theorem law_lp {g : GT} (hg : gL g ≤ 3587) : ∀ (n i : Nat), 1 ≤ n → i ≤ 4000 → gL g < i + 7 * n → HH (f_La_law_53 g n) i
  | 0, i, hn, _, _ => by omega
  | n + 1, i, hn, hi, hl => by
    intro r_md r_lat r_co r_ta r_gu r_so r_cn r_de r_ma r_bu r_wo r_od r_rs r_ca r_cm r_op r_ki r_tg r_fi r_se r_oc r_cp r_bs r_rr r_hr r_lw r_lr r_lt r_lm r_tc r_rc r_ju r_jb r_ch r_rd r_fr r_ub r_wr r_out r_mo r_mlat r_mcode r_mreg r_mmem r_mopd r_mres r_mhad r_mfu r_mfv r_mfi r_mopn r_mcpy r_mmade r_mval r_mseen r_mque r_mlaid r_mopt r_mopr hR
    rw [f_La_law_53]
    rcases len_c hg hi with ⟨q1, q2⟩ | ⟨q1, q2⟩
    · exact if_pos q1
    · have H := law_lp hg n (i + 7) (by omega) (by omega) (by omega)
      rw [if_neg (show ¬ Int32.ofNat (gL g) - (7 : Int32) < nI i from q1), ck_g hg (by omega), nm_n]
      by_cases h0 : gx g (nI i).toNatClampNeg &&& (15 : Int32) = 0
      · rw [if_pos h0]
        exact law_144 hg q2 hR H
      rw [if_neg h0]
      by_cases h1 : gx g (nI i).toNatClampNeg &&& (15 : Int32) = 1
      · rw [if_pos h1]
        exact law_242 hg q2 hR H
      rw [if_neg h1]
      by_cases h2 : gx g (nI i).toNatClampNeg &&& (15 : Int32) = 2
      · rw [if_pos h2]
        exact law_317 hg q2 hR H
      rw [if_neg h2]
      by_cases h3 : gx g (nI i).toNatClampNeg &&& (15 : Int32) = 3
      · rw [if_pos h3]
        exact law_366 hg q2 hR H
      rw [if_neg h3]
      by_cases h4 : gx g (nI i).toNatClampNeg &&& (15 : Int32) = 4
      · rw [if_pos h4]
        exact law_377 hg q2 hR H
      rw [if_neg h4]
      by_cases h5 : gx g (nI i).toNatClampNeg &&& (15 : Int32) = 5
      · rw [if_pos h5]
        exact law_481 hg q2 hR H
      rw [if_neg h5]
      by_cases h6 : gx g (nI i).toNatClampNeg &&& (15 : Int32) = 6
      · rw [if_pos h6]
        exact law_494 hg q2 hR H
      rw [if_neg h6]
      by_cases h7 : gx g (nI i).toNatClampNeg &&& (15 : Int32) = 7
      · rw [if_pos h7]
        exact law_538 hg q2 hR H
      rw [if_neg h7]
      by_cases h8 : gx g (nI i).toNatClampNeg &&& (15 : Int32) = 8
      · rw [if_pos h8]
        exact law_551 hg q2 hR H
      rw [if_neg h8]
      by_cases h9 : gx g (nI i).toNatClampNeg &&& (15 : Int32) = 9
      · rw [if_pos h9]
        exact law_576 hg q2 hR H
      rw [if_neg h9]
      by_cases h10 : gx g (nI i).toNatClampNeg &&& (15 : Int32) = 10
      · rw [if_pos h10]
        exact law_587 hg q2 hR H
      rw [if_neg h10]
      by_cases h11 : gx g (nI i).toNatClampNeg &&& (15 : Int32) = 11
      · rw [if_pos h11]
        exact law_643 hg q2 hR H
      rw [if_neg h11]
      by_cases h12 : gx g (nI i).toNatClampNeg &&& (15 : Int32) = 12
      · rw [if_pos h12]
        exact law_691 hg q2 hR H
      rw [if_neg h12]
      by_cases h13 : gx g (nI i).toNatClampNeg &&& (15 : Int32) = 13
      · rw [if_pos h13]
        exact law_747 hg q2 hR H
      rw [if_neg h13]
      by_cases h14 : gx g (nI i).toNatClampNeg &&& (15 : Int32) = 14
      · rw [if_pos h14]
        exact law_772 hg q2 hR H
      rw [if_neg h14]
      exact law_828 hR H
