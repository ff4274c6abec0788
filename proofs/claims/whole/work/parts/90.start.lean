theorem nestw_in : ∀ w ∈ nestw, w ∈ tables_1 := by decide +kernel
theorem exw_in : ∀ w ∈ exw, w ∈ tables_1 := by decide +kernel
theorem ST_of {args : Array Value} {s : State} {C n : String} {N : Nat} {f : Nat → Int32} {A : Nat → Prop} (hN : N < 2 ^ 31) (hl : (Cond.laysStatic C n "[I").before args s = true) (hini : (Cond.initialized C).before args s = true) (harr : (Cond.arrayOf (.static C n "[I") .int).before args s = true) (hlen : (Cond.eq (.length (.static C n "[I")) (.int (Int32.ofNat N))).before args s = true)
    (hel : ∀ j, j < N → (Cond.eq (.elem (.static C n "[I") (.int (Int32.ofNat j))) (.int (f j))).before args s = true) (hA : ∀ a : Nat, a < s.heap.size → ¬ A a) : ∃ t, ST C n t N f A s := by
  obtain ⟨t, h1, h2⟩ := va_Tof (f := fun j => .int (f j)) hN harr (va_eqt hlen) (fun j hj => va_eqt (hel j hj)) hA
  exact ⟨t, va_Zof hl hini h1 hA, h2⟩
theorem traces_off {l : Launch} (h : l.flags = flags0) : ∀ e, l.admits e → e.platform.stackTraces = false := fun e ha => by
  rw [show e.platform.stackTraces = l.stackTraces by rw [ha.platform]]
  unfold Launch.stackTraces
  rw [h]
  decide

theorem el_TARGETS : ∀ j, j < 26 → Cond.eq (.elem (.static "MoveDesk$Bundle" "TARGETS" "[I") (.int (Int32.ofNat j))) (.int (tgV j)) ∈ flatC (Jvm.Cond.and given_1 narrow_1) := by decide +kernel
theorem el_AGE_STEPS : ∀ j, j < 3 → Cond.eq (.elem (.static "MoveDesk$Judge" "AGE_STEPS" "[I") (.int (Int32.ofNat j))) (.int (asV j)) ∈ flatC (Jvm.Cond.and given_1 narrow_1) := by decide +kernel
theorem el_AGE_COUNTS : ∀ j, j < 3 → Cond.eq (.elem (.static "MoveDesk$Judge" "AGE_COUNTS" "[I") (.int (Int32.ofNat j))) (.int (acV j)) ∈ flatC (Jvm.Cond.and given_1 narrow_1) := by decide +kernel
set_option maxHeartbeats 4000000 in
set_option maxRecDepth 100000 in
theorem whole_start {p : Program} {e : Env} {s : State} {m : MethodId} {below : List Frame} {meth : Method} {c : Code} (l : Launch) (htr : ∀ e, l.admits e → e.platform.stackTraces = false) {b L : Nat} {xs : Nat → Int32} (hmath : ∀ g : GT, gL g = L → gx g = xs → MathOk g) (C0 : lw_At p s m meth c b L xs) : W p l e room_1 s m #[Value.ref b] below meth c s.heap [] 0 0 (lw_Z below #[Value.ref b] s) (entryFrame m ([Value.ref b] : List Value).toArray 7) := by
  obtain ⟨hx, hb, hr, hml, hown, hts0, hX, hbl, hlocks, hgv⟩ := id C0
  have hs := flat_of_before _ hgv
  have hts : ∀ w ∈ bw, w.before #[Value.ref b] s = true := fun w h => hts0 w (List.mem_filter.mp h).1
  have htt : ∀ w ∈ tables_1, w.before #[Value.ref b] s = true := fun w h => hts0 w (List.mem_append_right _ h)
  have hAn : ∀ a : Nat, a < s.heap.size → ¬ s.heap.size ≤ a := fun a h => Nat.not_le.mpr h
  obtain ⟨c0, iS0, hKn0⟩ := u_known (C := "MoveDesk$Bundle") (T := F_Bu) (N := 8) (n := 8) hts i_Bu (hts _ m_67)
  obtain ⟨c1, iS1, hKn1⟩ := u_known (C := "MoveDesk$Code") (T := F_Co) (N := 6) (n := 6) hts i_Co (hts _ m_34)
  obtain ⟨c2, iS2, hKn2⟩ := u_known (C := "MoveDesk$Judge") (T := F_Ju) (N := 10) (n := 10) hts i_Ju (hts _ m_225)
  obtain ⟨c3, iS3, hKn3⟩ := u_known (C := "MoveDesk$Machine") (T := F_Ma) (N := 16) (n := 16) hts i_Ma (hts _ m_61)
  obtain ⟨c4, iS4, hKn4⟩ := u_known (C := "MoveDesk$Operations") (T := F_Op) (N := 7) (n := 7) hts i_Op (hts _ m_153)
  obtain ⟨c5, iS5, hKn5⟩ := u_known (C := "MoveDesk$Planner") (T := F_Pl) (N := 12) (n := 12) hts i_Pl (hts _ m_181)
  obtain ⟨c6, iS6, hKn6⟩ := u_known (C := "MoveDesk") (T := F_Md) (N := 7) (n := 7) hts i_Md (hts _ m_20)
  obtain ⟨c7, iS7, hKn7⟩ := u_known (C := "MoveDeskModel") (T := F_Mo) (N := 32) (n := 32) hts i_Mo (hts _ m_812)
  obtain ⟨dC, dI, hKc⟩ : ∃ (dC : Nat → ClassId) (dI : Nat → Nat → Nat), ∀ (k : Nat) (q : vw_C), classes[k]? = some q → u_Kn s q.1 q.2.1 q.2.2 (dC k) (dI k) := by
    refine ⟨fun k => if k = 0 then c0 else if k = 1 then c1 else if k = 2 then c2 else if k = 3 then c3 else if k = 4 then c4 else if k = 5 then c5 else if k = 6 then c6 else c7, fun k => if k = 0 then iS0 else if k = 1 then iS1 else if k = 2 then iS2 else if k = 3 then iS3 else if k = 4 then iS4 else if k = 5 then iS5 else if k = 6 then iS6 else iS7, ?_⟩
    intro k q hq
    match k, hq with
    | 0, hq => cases hq; exact hKn0
    | 1, hq => cases hq; exact hKn1
    | 2, hq => cases hq; exact hKn2
    | 3, hq => cases hq; exact hKn3
    | 4, hq => cases hq; exact hKn4
    | 5, hq => cases hq; exact hKn5
    | 6, hq => cases hq; exact hKn6
    | 7, hq => cases hq; exact hKn7
    | k + 8, hq => simp [classes] at hq
  obtain ⟨cI, kkI, cmI, fI1, fI2, fI3⟩ := Cond.arrayClass_spec (hts _ m_59)
  obtain ⟨cZ, kkZ, cmZ, fZ1, fZ2, fZ3⟩ := Cond.arrayClass_spec (hts _ m_223)
  obtain ⟨cJ, kkJ, cmJ, fJ1, fJ2, fJ3⟩ := Cond.arrayClass_spec (hts _ m_270)
  obtain ⟨tT, hSTT⟩ := ST_of (C := "MoveDesk$Bundle") (n := "TARGETS") (N := 26) (f := tgV) (A := fun q => s.heap.size ≤ q) (by decide) (htt _ (by decide +kernel)) (hts _ m_5) (hs _ (by decide +kernel)) (hs _ (by decide +kernel)) (fun j hj => hs _ (el_TARGETS j hj)) hAn
  obtain ⟨tS, hSTS⟩ := ST_of (C := "MoveDesk$Judge") (n := "AGE_STEPS") (N := 3) (f := asV) (A := fun q => s.heap.size ≤ q) (by decide) (htt _ (by decide +kernel)) (hts _ m_8) (hs _ (by decide +kernel)) (hs _ (by decide +kernel)) (fun j hj => hs _ (el_AGE_STEPS j hj)) hAn
  obtain ⟨tC, hSTC⟩ := ST_of (C := "MoveDesk$Judge") (n := "AGE_COUNTS") (N := 3) (f := acV) (A := fun q => s.heap.size ≤ q) (by decide) (htt _ (by decide +kernel)) (hts _ m_8) (hs _ (by decide +kernel)) (hs _ (by decide +kernel)) (fun j hj => hs _ (el_AGE_COUNTS j hj)) hAn
  have hK : va_K (dC, dI) classes [(cI, .int), (cZ, .boolean), (cJ, .long)] s := ⟨hKc, fun k q h => by
    match k, h with
    | 0, h => cases h; exact ⟨fun n z => ⟨fun k h => (by cases h), kkI, fI2, cmI, fI3⟩, fI1⟩
    | 1, h => cases h; exact ⟨fun n z => ⟨fun k h => (by cases h), kkZ, fZ2, cmZ, fZ3⟩, fZ1⟩
    | 2, h => cases h; exact ⟨fun n z => ⟨fun k h => (by cases h), kkJ, fJ2, cmJ, fJ3⟩, fJ1⟩
    | k + 3, h => simp at h⟩
  have hEX : EX (fun q => s.heap.size ≤ q) s := ⟨fun w hw => by
      have h1 := htt w (exw_in w hw)
      rcases exw_kinds w hw with ⟨x, z, rfl⟩ | ⟨x, rfl⟩
      · exact va_Nw.of rfl h1
      · exact va_Nw.of rfl h1,
    ZL.of (htt _ (by decide +kernel)) (hs _ (by decide +kernel)) hAn, ZL.of (htt _ (by decide +kernel)) (hs _ (by decide +kernel)) hAn, va_Nc.of (hs _ (by decide +kernel)), va_Nc.of (hs _ (by decide +kernel))⟩
  have hNW : NW s := fun w hw => by
    have h1 := htt w (nestw_in w hw)
    rcases nestw_kinds w hw with ⟨x1, x2, x3, x4, x5, x6, rfl⟩ | ⟨x1, x2, x3, x4, rfl⟩
    · exact va_Nw.of rfl h1
    · exact va_Nw.of rfl h1
  obtain ⟨x0, x1, x2, z_Ju_init, z_Mo_init, hx0, hx1, hx2, hz_Ju_init, hz_Mo_init, hy⟩ := hmath ((dC, dI), (cI, cZ, cJ), (tT, tS, tC), (b, L, xs)) rfl rfl
  have hl := lv_entry ([.ref b]) (n := 7) (Nat.le_of_ble_eq_true rfl)
  rw [lg_entry_eq]
  exact law_go (g := ((dC, dI), (cI, cZ, cJ), (tT, tS, tC), (b, L, xs))) (A := fun q => s.heap.size ≤ q) ⟨hx, hb, hr, hml, hown, hts, hlocks, fun _ h => h, hK, hNW, hSTT, hSTS, hSTC, hEX, hX, Nat.not_le.mpr hbl⟩ (fun _ h => h) htr x0 x1 x2 hx0 hx1 hx2 z_Ju_init hz_Ju_init z_Mo_init hz_Mo_init hy (fun k q h => by simp at h) ⟨fun i j p q h => by simp at h, fun k q h => by simp at h⟩ va_S.rf hl
