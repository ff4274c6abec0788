-- ===== the reference judges =====
theorem m59_lp {B : Nat} {K : KT} {L : Nat → Nat} (hLJ : LJ L) {ta gu so cn de lat mlat mc : Nat → Int32} (h : RC B K ta gu so cn de mc) (hL : LL L lat mlat) {T : Nat} (hT : T = 792576) : ∀ (d v n w : Nat) (mo md seen que : Nat → Int32), v + d = T → d < n → v ≤ w → mo 1 = nI B → mo 26 = nI w → QS T (SRc K cn L) w seen que → VBv (Wrg K cn L) (mo 24) (mo 25) → seen (phi cn L 0 0 0) ≠ 0 → (∀ i, i < v → ∀ c j a, Rch K cn L c j a → que i = nI (phi cn L c j a) → ∀ m, m < 16 → DM cn L (mq K c m) mo seen c j a) → ∃ w' mo' md' seen' que', f_Mo_judge_59 n mo mlat mc md seen que (nI v) = some (mo' 24, mo', md', seen', que') ∧ mo' 26 = nI w' ∧ QS T (SRc K cn L) w' seen' que' ∧ VBv (Wrg K cn L) (mo' 24) (mo' 25) ∧ (∀ c f, Wrg K cn L c f → BT (mo' 24) (mo' 25) c f) ∧ ∀ i, i ≠ 24 → i ≠ 25 → i ≠ 26 → mo' i = mo i
  | d, v, 0, _, _, _, _, _, _, hn, _, _, _, _, _, _, _ => by omega
  | d, v, n + 1, w, mo, md, seen, que, hi, hn, hvw, h1, h26, hQ, hv, h0, hdn => by
    have hwT := hQ.1
    by_cases hw : w ≤ v
    · have hall : ∀ c j a, Rch K cn L c j a → Rch K cn L c j a ∧ seen (phi cn L c j a) ≠ 0 := fun c j a hr => by
        refine hr (fun c j a => Rch K cn L c j a ∧ seen (phi cn L c j a) ≠ 0) ⟨Rch_0 _ _ _, h0⟩ (fun c j a m hP hm hf hh => ⟨Rch_s hP.1 hm hf hh, ?_⟩)
        obtain ⟨k1, k2, k3⟩ := Rch_V hLJ hP.1
        obtain ⟨i, hi1, hi2⟩ := hQ.2.2.1 _ (by rw [hT]; exact phi_lt hLJ k1 k3) hP.2
        exact (hdn i (by omega) c j a hP.1 hi2 m hm).2 hf hh
      refine ⟨w, mo, md, seen, que, ?_, h26, hQ, hv, ?_, fun _ _ _ _ => rfl⟩
      · rw [f_Mo_judge_59, h26, if_pos (nI_le hw (by omega))]
      · rintro c f ⟨j, a, m, hr, hm, hf, hne⟩
        obtain ⟨k1, k2, k3⟩ := Rch_V hLJ hr
        obtain ⟨i, hi1, hi2⟩ := hQ.2.2.1 _ (by rw [hT]; exact phi_lt hLJ k1 k3) (hall c j a hr).2
        have := (hdn i (by omega) c j a hr hi2 m hm).1
        rw [hf] at this
        exact this hne
    · obtain ⟨d', rfl⟩ : ∃ d', d = d' + 1 := ⟨d - 1, by omega⟩
      obtain ⟨s, hs1, hs2, c0, j0, a0, hR, hs3⟩ := hQ.2.1 v (by omega)
      rw [hs3] at hs2
      obtain ⟨w1, mo1, md1, seen1, que1, p1, p2, p3⟩ := gon_n (md := md) hLJ h hL hT hR h1 h26 hQ hv
      have hev : ∀ c j a, Rch K cn L c j a → que v = nI (phi cn L c j a) → ∀ m, m < 16 → DM cn L (mq K c m) mo1 seen1 c j a := fun c j a hr he => by
        obtain ⟨w2, mo2, md2, seen2, que2, r1, _, r3⟩ := gon_n (md := md) hLJ h hL hT hr h1 h26 hQ hv
        rw [← he, hs2, p1] at r1
        injection r1 with r1
        injection r1 with e1 r1
        injection r1 with e2 r1
        injection r1 with e3 e4
        rw [e1, e3]; exact r3
      obtain ⟨g1, g2, g3, g4, g5, g6, g7, g8⟩ := p2
      obtain ⟨w', mo', md', seen', que', q1, q2, q3, q4, q5, q6⟩ := m59_lp hLJ h hL hT d' (v + 1) n w1 mo1 md1 seen1 que1 (by omega) (by omega) (by omega) (by rw [g8 1 (by omega) (by omega) (by omega)]; exact h1) g1 g2 g7 (g5 _ h0) (fun i hi c j a hr he m hm => by
        by_cases e : i = v
        · subst e
          rw [g4 i (by omega)] at he
          exact hev c j a hr he m hm
        · rw [g4 i (by omega)] at he
          exact DM_mono ⟨g1, g2, g3, g4, g5, g6, g7, g8⟩ (hdn i (by omega) c j a hr he m hm))
      refine ⟨w', mo', md', seen', que', ?_, q2, q3, q4, q5, fun k k1 k2 k3 => (q6 k k1 k2 k3).trans (g8 k k1 k2 k3)⟩
      rw [f_Mo_judge_59, h26, if_neg (nI_ge (by omega) (by omega)), ck_n (by omega) (by omega), nI_clamp (by omega), hs2, p1, Option.bind_some, nm_n, nI_1]
      exact q1
def QB (mo seen que : Nat → Int32) : Prop := ∃ w, w ≤ 792576 ∧ mo 26 = nI w ∧ (∀ i, i < w → ∃ s, s < 792576 ∧ que i = nI s) ∧ ∀ s, s < 792576 → seen s ≠ 0 → ∃ i, i < w ∧ que i = nI s
theorem m17_lp {T : Nat} (hT : T = 792576) {w : Nat} {mo mlat mc md que : Nat → Int32} (h26 : mo 26 = nI w) (hw : w ≤ T) (hq : ∀ i, i < w → ∃ s, s < T ∧ que i = nI s) : ∀ (d v n : Nat) (seen : Nat → Int32), v + d = w → d < n → (∀ s, s < T → seen s ≠ 0 → ∃ i, v ≤ i ∧ i < w ∧ que i = nI s) → ∃ seen', (∀ s, s < T → seen' s = 0) ∧ f_Mo_judge_17 n mo mlat mc md seen que (nI v) = (f_Mo_come (upd mo 26 0) seen' que 0 0 0 0 0).bind fun y2 => f_Mo_judge_59 800000 y2.1 mlat mc md y2.2.1 y2.2.2 0
  | 0, v, n + 1, seen, hi, hn, hz => by
    refine ⟨seen, fun s hs => ?_, ?_⟩
    · refine Classical.byContradiction (fun q => ?_)
      obtain ⟨i, k1, k2, _⟩ := hz s hs q
      omega
    · rw [f_Mo_judge_17, h26, if_pos (nI_le (by omega) (by omega))]
  | d + 1, v, n + 1, seen, hi, hn, hz => by
    obtain ⟨s, hs1, hs2⟩ := hq v (by omega)
    obtain ⟨seen', q1, q2⟩ := m17_lp hT (mlat := mlat) (mc := mc) (md := md) h26 hw hq d (v + 1) n (upd seen s 0) (by omega) (by omega) (fun s' hs' hn' => by
      by_cases e : s' = s
      · subst e; rw [upd_s] at hn'; exact absurd rfl hn'
      · rw [upd_n e] at hn'
        obtain ⟨i, k1, k2, k3⟩ := hz s' hs' hn'
        by_cases ei : i = v
        · subst ei
          rw [hs2, nI_eq (by omega) (by omega)] at k3
          exact absurd k3.symm e
        · exact ⟨i, by omega, k2, k3⟩)
    refine ⟨seen', q1, ?_⟩
    rw [f_Mo_judge_17, h26, if_neg (nI_ge (by omega) (by omega)), ck_n (by omega) (by omega), nI_clamp (by omega), hs2, ck_n (by omega) (by omega), nI_clamp (by omega), nm_n, nI_1]
    exact q2
theorem phi_0 {cn : Nat → Int32} {L : Nat → Nat} (hL : LJ L) : phi cn L 0 0 0 = 0 := by
  obtain ⟨l0, l1, l2, l3, l4⟩ := hL
  have h0 : hd L 0 0 = false := by unfold hd; exact decide_eq_false (fun e => by have : ag 0 0 = 0 := rfl; omega)
  have h1 : hd L 0 1 = false := by unfold hd; exact decide_eq_false (fun e => by have : ag 1 0 = 0 := rfl; omega)
  have h2 : hd L 0 2 = false := by unfold hd; exact decide_eq_false (fun e => by have : ag 2 0 = 0 := rfl; omega)
  have h3 : hb L 0 = 0 := by unfold hb; rw [h0, h1, h2]; rfl
  unfold phi
  rw [h3]
  rfl
theorem judge_m {B : Nat} {K : KT} {L : Nat → Nat} (hLJ : LJ L) {ta gu so cn de lat mlat mc mo md seen que : Nat → Int32} (h : RC B K ta gu so cn de mc) (hL : LL L lat mlat) (h1 : mo 1 = nI B) (hQ : QB mo seen que) : ∃ mo' md' seen' que', f_Mo_judge mo mlat mc md seen que = some (mo' 24, mo', md', seen', que') ∧ QB mo' seen' que' ∧ VBv (Wrg K cn L) (mo' 24) (mo' 25) ∧ (∀ c f, Wrg K cn L c f → BT (mo' 24) (mo' 25) c f) ∧ mo' 0 = 0 ∧ ∀ i, i ≠ 0 → i ≠ 24 → i ≠ 25 → i ≠ 26 → mo' i = mo i := by
  obtain ⟨T, hT⟩ : ∃ T, T = 792576 := ⟨_, rfl⟩
  obtain ⟨w, q1, q2, q3, q4⟩ := hQ
  rw [← hT] at q1 q3 q4
  have e0 : ∀ i, i ≠ 0 → i ≠ 24 → i ≠ 25 → upd (upd (upd mo 0 0) 24 (-1)) 25 0 i = mo i := fun i a b c => by rw [upd_n c, upd_n b, upd_n a]
  obtain ⟨seen1, s1, s2⟩ := m17_lp hT (mo := upd (upd (upd mo 0 0) 24 (-1)) 25 0) (mlat := mlat) (mc := mc) (md := md) (que := que) (w := w) (by rw [e0 26 (by omega) (by omega) (by omega)]; exact q2) q1 q3 w 0 800000 seen (by omega) (by omega) (fun s hs hn => by
    obtain ⟨i, k1, k2⟩ := q4 s hs hn
    exact ⟨i, Nat.zero_le _, k1, k2⟩)
  have hQ0 : QS T (SRc K cn L) 0 seen1 que := by
    refine ⟨Nat.zero_le _, fun i hi => by omega, fun s hs hn => absurd (s1 s hs) hn, ?_⟩
    rw [cnt_congr (Q := fun _ => false) T (fun i hi => by rw [s1 i hi]; rfl)]
    exact cnt_none T
  have hp0 : phi cn L 0 0 0 = 0 := phi_0 hLJ
  obtain ⟨w1, mo1, seen2, que1, p1, p2, p3, p4, p5, p6, p7, p8⟩ := come_n hT (S := SRc K cn L) (mo := upd (upd (upd (upd mo 0 0) 24 (-1)) 25 0) 26 0) (w := 0) (upd_s _ _ _) hQ0 (s := 0) (by omega) ⟨0, 0, 0, Rch_0 _ _ _, hp0.symm⟩ (v1 := 0) (v2 := 0) (v3 := 0) (v4 := 0) (v5 := 0) rfl
  have e1 : ∀ i, i ≠ 0 → i ≠ 24 → i ≠ 25 → i ≠ 26 → mo1 i = mo i := fun i a b c d => by rw [p8 i d, upd_n d, e0 i a b c]
  have e24 : mo1 24 = mi := by rw [p8 24 (by omega), upd_n (by omega), upd_n (by omega), upd_s]; rfl
  have e25 : mo1 25 = nI 0 := by rw [p8 25 (by omega), upd_n (by omega), upd_s]; rfl
  have e00 : mo1 0 = 0 := by rw [p8 0 (by omega), upd_n (by omega), upd_n (by omega), upd_n (by omega), upd_s]
  obtain ⟨w', mo', md', seen', que', r1, r2, r3, r4, r5, r6⟩ := m59_lp hLJ h hL hT T 0 800000 w1 mo1 md seen2 que1 (by omega) (by omega) (Nat.zero_le _) (by rw [e1 1 (by omega) (by omega) (by omega) (by omega)]; exact h1) p2 p3 (Or.inl ⟨e24, e25⟩) (by rw [hp0]; exact p7) (fun i hi => by omega)
  refine ⟨mo', md', seen', que', ?_, ⟨w', ?_, r2, ?_, ?_⟩, r4, r5, ?_, fun i a b c d => (r6 i b c d).trans (e1 i a b c d)⟩
  · have p1' : f_Mo_come (upd (upd (upd (upd mo 0 0) 24 (-1)) 25 0) 26 0) seen1 que 0 0 0 0 0 = some (mo1, seen2, que1) := p1
    have s2' : f_Mo_judge mo mlat mc md seen que = (f_Mo_come (upd (upd (upd (upd mo 0 0) 24 (-1)) 25 0) 26 0) seen1 que 0 0 0 0 0).bind fun y2 => f_Mo_judge_59 800000 y2.1 mlat mc md y2.2.1 y2.2.2 0 := s2
    rw [s2', p1', Option.bind_some]
    exact r1
  · have := r3.1; omega
  · intro i hi
    obtain ⟨s, k1, k2, _⟩ := r3.2.1 i hi
    exact ⟨s, by omega, k2⟩
  · intro s hs hn
    exact r3.2.2.1 s (by omega) hn
  · rw [r6 0 (by omega) (by omega) (by omega)]; exact e00
/-- both judge alike -/
theorem case_judge {B : Nat} {K : KT} {L : Nat → Nat} (hLJ : LJ L) {r_md r_co ta gu so cn de lat mlat mc mo mmd seen que : Nat → Int32} (h : RC B K ta gu so cn de mc) (hL : LL L lat mlat) (hB : r_co 0 = nI B) (h1 : mo 1 = nI B) {ub wr : Nat → Int64} (hJ : JR L ub wr) (hQ : QB mo seen que) (ju jb ch : Nat → Int32) (rd fr : Nat → Int64) : ∃ x y ju' jb' ch' rd' fr' mo' mmd' seen' que', f_Md_judge r_md r_co ta gu so cn de ju jb ch rd fr ub wr = some (x, upd r_md 5 y, ju', jb', ch', rd', fr') ∧ f_Mo_judge mo mlat mc mmd seen que = some (x, mo', mmd', seen', que') ∧ QB mo' seen' que' ∧ mo' 0 = 0 ∧ mo' 25 = y ∧ ∀ i, i ≠ 0 → i ≠ 24 → i ≠ 25 → i ≠ 26 → mo' i = mo i := by
  obtain ⟨x, y, ju', jb', ch', rd', fr', a1, a2, a3⟩ := judge_c (r_md := r_md) (cn := cn) hLJ h hB hJ ju jb ch rd fr
  obtain ⟨mo', mmd', seen', que', b1, b2, b3, b4, b5, b6⟩ := judge_m (md := mmd) hLJ h hL h1 hQ
  obtain ⟨e1, e2⟩ := VB_eq a2 b3 a3 b4
  exact ⟨x, y, ju', jb', ch', rd', fr', mo', mmd', seen', que', a1, by rw [e1]; exact b1, b2, b5, e2.symm, b6⟩
