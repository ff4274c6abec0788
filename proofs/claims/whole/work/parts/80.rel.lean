-- ===== the relation of all rows =====
def RL (r_md : Nat → Int32) (r_lat : Nat → Int32) (r_co : Nat → Int32) (r_ta : Nat → Int32) (r_gu : Nat → Int32) (r_so : Nat → Int32) (r_cn : Nat → Int32) (r_de : Nat → Int32) (r_ma : Nat → Int32) (r_wo : Nat → Int32) (r_od : Nat → Int32) (r_rs : Nat → Int32) (r_cm : Nat → Int32) (r_op : Nat → Int32) (r_ki : Nat → Int32) (r_tg : Nat → Int32) (r_fi : Nat → Int32) (r_se : Nat → Int32) (r_oc : Nat → Int32) (r_ub : Nat → Int64) (r_wr : Nat → Int64) (r_mo : Nat → Int32) (r_mlat : Nat → Int32) (r_mcode : Nat → Int32) (r_mreg : Nat → Int32) (r_mmem : Nat → Int32) (r_mopd : Nat → Int32) (r_mres : Nat → Int32) (r_mhad : Nat → Int32) (r_mfu : Nat → Int32) (r_mfv : Nat → Int32) (r_mfi : Nat → Int32) (r_mopn : Nat → Int32) (r_mseen : Nat → Int32) (r_mque : Nat → Int32) : Prop := ∃ B K L, RC B K r_ta r_gu r_so r_cn r_de r_mcode ∧ r_co 0 = nI B ∧ r_mo 1 = nI B ∧ LL L r_lat r_mlat ∧ LJ L ∧ JR L r_ub r_wr ∧ RS L r_ma r_wo r_od r_rs r_cm r_mo r_mreg r_mmem r_mopd r_mres r_mhad r_mfu r_mfv r_mfi ∧ RO r_op r_ki r_tg r_fi r_se r_oc r_mo r_mopn ∧ QB r_mo r_mseen r_mque ∧ r_md 5 = r_mo 25 ∧ r_md 6 = r_mo 13
abbrev LF : Type := (Nat → Int32) → (Nat → Int32) → (Nat → Int32) → (Nat → Int32) → (Nat → Int32) → (Nat → Int32) → (Nat → Int32) → (Nat → Int32) → (Nat → Int32) → (Nat → Int32) → (Nat → Int32) → (Nat → Int32) → (Nat → Int32) → (Nat → Int32) → (Nat → Int32) → (Nat → Int32) → (Nat → Int32) → (Nat → Int32) → (Nat → Int32) → (Nat → Int32) → (Nat → Int32) → (Nat → Int32) → (Nat → Int32) → (Nat → Int32) → (Nat → Int32) → (Nat → Int32) → (Nat → Int32) → (Nat → Int32) → (Nat → Int32) → (Nat → Int32) → (Nat → Int32) → (Nat → Int32) → (Nat → Int32) → (Nat → Int32) → (Nat → Int64) → (Nat → Int64) → (Nat → Int64) → (Nat → Int64) → (Nat → Int64) → (Nat → Int32) → (Nat → Int32) → (Nat → Int32) → (Nat → Int32) → (Nat → Int32) → (Nat → Int32) → (Nat → Int32) → (Nat → Int32) → (Nat → Int32) → (Nat → Int32) → (Nat → Int32) → (Nat → Int32) → (Nat → Int32) → (Nat → Int32) → (Nat → Int32) → (Nat → Int32) → (Nat → Int32) → (Nat → Int32) → (Nat → Int32) → (Nat → Int32) → Int32 → Option Int32
def HH (rec : LF) (i : Nat) : Prop := ∀ (r_md : Nat → Int32) (r_lat : Nat → Int32) (r_co : Nat → Int32) (r_ta : Nat → Int32) (r_gu : Nat → Int32) (r_so : Nat → Int32) (r_cn : Nat → Int32) (r_de : Nat → Int32) (r_ma : Nat → Int32) (r_bu : Nat → Int32) (r_wo : Nat → Int32) (r_od : Nat → Int32) (r_rs : Nat → Int32) (r_ca : Nat → Int32) (r_cm : Nat → Int32) (r_op : Nat → Int32) (r_ki : Nat → Int32) (r_tg : Nat → Int32) (r_fi : Nat → Int32) (r_se : Nat → Int32) (r_oc : Nat → Int32) (r_cp : Nat → Int32) (r_bs : Nat → Int32) (r_rr : Nat → Int32) (r_hr : Nat → Int32) (r_lw : Nat → Int32) (r_lr : Nat → Int32) (r_lt : Nat → Int32) (r_lm : Nat → Int32) (r_tc : Nat → Int32) (r_rc : Nat → Int32) (r_ju : Nat → Int32) (r_jb : Nat → Int32) (r_ch : Nat → Int32) (r_rd : Nat → Int64) (r_fr : Nat → Int64) (r_ub : Nat → Int64) (r_wr : Nat → Int64) (r_out : Nat → Int64) (r_mo : Nat → Int32) (r_mlat : Nat → Int32) (r_mcode : Nat → Int32) (r_mreg : Nat → Int32) (r_mmem : Nat → Int32) (r_mopd : Nat → Int32) (r_mres : Nat → Int32) (r_mhad : Nat → Int32) (r_mfu : Nat → Int32) (r_mfv : Nat → Int32) (r_mfi : Nat → Int32) (r_mopn : Nat → Int32) (r_mcpy : Nat → Int32) (r_mmade : Nat → Int32) (r_mval : Nat → Int32) (r_mseen : Nat → Int32) (r_mque : Nat → Int32) (r_mlaid : Nat → Int32) (r_mopt : Nat → Int32) (r_mopr : Nat → Int32), RL r_md r_lat r_co r_ta r_gu r_so r_cn r_de r_ma r_wo r_od r_rs r_cm r_op r_ki r_tg r_fi r_se r_oc r_ub r_wr r_mo r_mlat r_mcode r_mreg r_mmem r_mopd r_mres r_mhad r_mfu r_mfv r_mfi r_mopn r_mseen r_mque → rec r_md r_lat r_co r_ta r_gu r_so r_cn r_de r_ma r_bu r_wo r_od r_rs r_ca r_cm r_op r_ki r_tg r_fi r_se r_oc r_cp r_bs r_rr r_hr r_lw r_lr r_lt r_lm r_tc r_rc r_ju r_jb r_ch r_rd r_fr r_ub r_wr r_out r_mo r_mlat r_mcode r_mreg r_mmem r_mopd r_mres r_mhad r_mfu r_mfv r_mfi r_mopn r_mcpy r_mmade r_mval r_mseen r_mque r_mlaid r_mopt r_mopr (nI i) = some 1
theorem RS_mo {Lt : Nat → Nat} {ma wo od rs cm mo mo' mreg mmem mopd mres mhad mfu mfv mfi : Nat → Int32} (e : ∀ j, 9 ≤ j → j ≤ 15 → j ≠ 13 → mo' j = mo j) (h : RS Lt ma wo od rs cm mo mreg mmem mopd mres mhad mfu mfv mfi) : RS Lt ma wo od rs cm mo' mreg mmem mopd mres mhad mfu mfv mfi := by
  obtain ⟨⟨h1, h2, h3, h4, h5, h6, h7, h8⟩, hw, l, sl, ⟨p1, p2, p3, p4, p5, p6, p7⟩, hp⟩ := h
  refine ⟨⟨h1, h2, h3, h4, ?_, ?_, ?_, ?_⟩, hw, l, sl, ⟨p1, p2, p3, p4, p5, ?_, p7⟩, hp⟩
  · rw [e 9 (by omega) (by omega) (by omega)]; exact h5
  · rw [e 10 (by omega) (by omega) (by omega)]; exact h6
  · rw [e 11 (by omega) (by omega) (by omega), e 12 (by omega) (by omega) (by omega)]; exact h7
  · rw [e 14 (by omega) (by omega) (by omega)]; exact h8
  · rw [e 15 (by omega) (by omega) (by omega)]; exact p6
theorem RO_mo {op ki tg fi se oc mo mo' mopn : Nat → Int32} (e : mo' 19 = mo 19) (h : RO op ki tg fi se oc mo mopn) : RO op ki tg fi se oc mo' mopn := by
  obtain ⟨O, n, h1, h2, h3⟩ := h
  exact ⟨O, n, h1, e.trans h2, h3⟩
theorem QB_mo {mo mo' seen que : Nat → Int32} (e : mo' 26 = mo 26) (h : QB mo seen que) : QB mo' seen que := by
  obtain ⟨w, h1, h2, h3, h4⟩ := h
  exact ⟨w, h1, e.trans h2, h3, h4⟩
theorem PDR_0 {Lt : Nat → Nat} {ma cm mo mfu mfv mfi : Nat → Int32} (h8 : ma 8 = nI 0) (h9 : ma 9 = nI 0) (h15 : mo 15 = nI 0) : PDR Lt ma cm mo mfu mfv mfi := by
  refine ⟨[], 0, ⟨by omega, h9, fun u hu k h1 h2 => ?_, fun u k v hm => ?_, ?_, h15, fun f t hf => ?_⟩, fun u v hm => ?_⟩
  · rw [h8]
    constructor
    · intro z
      have : bt (nI 0) (u * 4 + (0 + k - 1) % 4) = false := bt_zero _
      rw [this] at z; cases z
    · rintro ⟨v, z⟩; cases z
  · cases hm
  · exact List.nodup_nil
  · cases hf
  · cases hm
theorem ck_01 {α : Type} {k : Option α} : ck (0 : Int32) 1 k = k := ck_n (j := 0) (by omega) (by omega)
theorem z_0 : (0 : Int32).toNatClampNeg = 0 := rfl
theorem ad_1 (i : Nat) : nI i + (1 : Int32) = nI (i + 1) := nI_add i 1
theorem ad_2 (i : Nat) : nI i + (2 : Int32) = nI (i + 2) := nI_add i 2
theorem ad_3 (i : Nat) : nI i + (3 : Int32) = nI (i + 3) := nI_add i 3
theorem ad_4 (i : Nat) : nI i + (4 : Int32) = nI (i + 4) := nI_add i 4
theorem ad_5 (i : Nat) : nI i + (5 : Int32) = nI (i + 5) := nI_add i 5
theorem ad_6 (i : Nat) : nI i + (6 : Int32) = nI (i + 6) := nI_add i 6
theorem ad_7 (i : Nat) : nI i + (7 : Int32) = nI (i + 7) := nI_add i 7
theorem ck_g {α : Type} {g : GT} (hg : gL g ≤ 3587) {i : Nat} {k : Option α} (h : i < gL g) : ck (nI i) (gL g) k = k := ck_n h (by omega)
