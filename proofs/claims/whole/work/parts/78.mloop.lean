-- ===== the reference's list of states =====
def SRc (K : KT) (cn : Nat → Int32) (L : Nat → Nat) (s : Nat) : Prop := ∃ c j a, Rch K cn L c j a ∧ s = phi cn L c j a
def QS (T : Nat) (S : Nat → Prop) (w : Nat) (seen que : Nat → Int32) : Prop := w ≤ T ∧ (∀ i, i < w → ∃ s, s < T ∧ que i = nI s ∧ S s) ∧ (∀ s, s < T → seen s ≠ 0 → ∃ i, i < w ∧ que i = nI s) ∧ cnt (fun s => !decide (seen s = 0)) T = w
theorem come_n {T : Nat} (hT : T = 792576) {S : Nat → Prop} {w s : Nat} {mo seen que : Nat → Int32} (hw : mo 26 = nI w) (hQ : QS T S w seen que) (hs : s < T) (hS : S s) {v1 v2 v3 v4 v5 : Nat} (hx : (((v1 * 129 + v2) * 8 + v3) * 4 + v4) * 3 + v5 = s) : ∃ w' mo' seen' que', f_Mo_come mo seen que (nI v1) (nI v2) (nI v3) (nI v4) (nI v5) = some (mo', seen', que') ∧ mo' 26 = nI w' ∧ QS T S w' seen' que' ∧ w ≤ w' ∧ (∀ i, i < w → que' i = que i) ∧ (∀ s', seen s' ≠ 0 → seen' s' ≠ 0) ∧ seen' s ≠ 0 ∧ ∀ i, i ≠ 26 → mo' i = mo i := by
  obtain ⟨q1, q2, q3, q4⟩ := hQ
  have ex : (((((((nI v1 * (129 : Int32)) + nI v2) * (8 : Int32)) + nI v3) * (4 : Int32)) + nI v4) * (3 : Int32)) + nI v5 = nI s := by
    show (((((((nI v1 * nI 129) + nI v2) * nI 8) + nI v3) * nI 4) + nI v4) * nI 3) + nI v5 = nI s
    rw [pk_mul, nI_add, pk_mul, nI_add, pk_mul, nI_add, pk_mul, nI_add, hx]
  unfold f_Mo_come
  rw [ex, nm_n, ck_n (by omega) (by omega), nI_clamp (by omega)]
  by_cases e : seen s = 0
  · have hlt : w < T := by
      rw [← q4]
      exact cnt_room hs (by simp [e])
    rw [if_pos e, ck_n (by omega) (by omega), hw, ck_n (by omega) (by omega), nI_clamp (by omega), nm_n, nI_1]
    refine ⟨w + 1, _, _, _, rfl, upd_s _ _ _, ⟨by omega, fun i hi => ?_, fun s' hs' hn => ?_, ?_⟩, by omega, fun i hi => upd_n (by omega), fun s' hn => ?_, ?_, fun i hi => upd_n hi⟩
    · by_cases ei : i = w
      · subst ei; exact ⟨s, hs, upd_s _ _ _, hS⟩
      · rw [upd_n ei]; exact q2 i (by omega)
    · by_cases es : s' = s
      · subst es; exact ⟨w, by omega, upd_s _ _ _⟩
      · rw [upd_n es] at hn
        obtain ⟨i, hi, z⟩ := q3 s' hs' hn
        exact ⟨i, by omega, by rw [upd_n (by omega)]; exact z⟩
    · rw [← q4]
      exact cnt_ins T s hs (by simp [e]) (by rw [upd_s]; decide) (fun i _ hi => by rw [upd_n hi])
    · by_cases es : s' = s
      · subst es; rw [upd_s]; decide
      · rw [upd_n es]; exact hn
    · rw [upd_s]; decide
  · rw [if_neg e]
    exact ⟨w, mo, seen, que, rfl, hw, ⟨q1, q2, q3, q4⟩, Nat.le_refl _, fun _ _ => rfl, fun _ h => h, e, fun _ _ => rfl⟩
def GMr (T : Nat) (S : Nat → Prop) (W : Nat → Nat → Prop) (w : Nat) (mo seen que : Nat → Int32) (w' : Nat) (mo' seen' que' : Nat → Int32) : Prop :=
  mo' 26 = nI w' ∧ QS T S w' seen' que' ∧ w ≤ w' ∧ (∀ i, i < w → que' i = que i) ∧ (∀ s, seen s ≠ 0 → seen' s ≠ 0) ∧ (∀ c f, BT (mo 24) (mo 25) c f → BT (mo' 24) (mo' 25) c f) ∧ VBv W (mo' 24) (mo' 25) ∧ ∀ i, i ≠ 24 → i ≠ 25 → i ≠ 26 → mo' i = mo i
theorem GM_trans {T : Nat} {S : Nat → Prop} {W : Nat → Nat → Prop} {w w1 w2 : Nat} {mo seen que mo1 seen1 que1 mo2 seen2 que2 : Nat → Int32} (h : GMr T S W w mo seen que w1 mo1 seen1 que1) (k : GMr T S W w1 mo1 seen1 que1 w2 mo2 seen2 que2) : GMr T S W w mo seen que w2 mo2 seen2 que2 := by
  obtain ⟨h1, h2, h3, h4, h5, h6, h7, h8⟩ := h
  obtain ⟨k1, k2, k3, k4, k5, k6, k7, k8⟩ := k
  exact ⟨k1, k2, by omega, fun i hi => (k4 i (by omega)).trans (h4 i hi), fun s z => k5 s (h5 s z), fun c f z => k6 c f (h6 c f z), k7, fun i a b c => (k8 i a b c).trans (h8 i a b c)⟩
def DM (cn : Nat → Int32) (L : Nat → Nat) (M : MT) (mo seen : Nat → Int32) (c j a : Nat) : Prop :=
  (flt L M j a ≠ 0 → BT (mo 24) (mo 25) c (flt L M j a)) ∧ (flt L M j a = 0 → hlt M = false → seen (phi cn L (ncy cn c j) (njp M j) (old L M a)) ≠ 0)
theorem DM_mono {cn : Nat → Int32} {L : Nat → Nat} {M : MT} {T : Nat} {S : Nat → Prop} {W : Nat → Nat → Prop} {w w' : Nat} {mo seen que mo' seen' que' : Nat → Int32} (h : GMr T S W w mo seen que w' mo' seen' que') {c j a : Nat} (k : DM cn L M mo seen c j a) : DM cn L M mo' seen' c j a :=
  ⟨fun z => h.2.2.2.2.2.1 _ _ (k.1 z), fun z1 z2 => h.2.2.2.2.1 _ (k.2 z1 z2)⟩
theorem hb_bt (L : Nat → Nat) (M : MT) (a : Nat) (jj : Bool) : FTb M (bt (nI (hb L a))) jj = FTb M (hd L a) jj := by
  apply FTb_no
  apply Bool.eq_iff_iff.mpr
  rw [noRes_iff, noRes_iff]
  obtain ⟨b0, b1, b2⟩ := B3_bt (hd L a 0) (hd L a 1) (hd L a 2)
  have hu : ∀ u, u < 3 → bt (nI (hb L a)) u = hd L a u := fun u hu => by
    rcases ag_u hu with rfl | rfl | rfl <;> assumption
  constructor
  · rintro ⟨u, h1, h2, h3⟩; exact ⟨u, h1, by rw [← hu u h1]; exact h2, h3⟩
  · rintro ⟨u, h1, h2, h3⟩; exact ⟨u, h1, by rw [hu u h1]; exact h2, h3⟩
theorem gon_lp {B : Nat} {K : KT} {L : Nat → Nat} (hLJ : LJ L) {ta gu so cn de lat mlat mc : Nat → Int32} (h : RC B K ta gu so cn de mc) (hL : LL L lat mlat) {T : Nat} (hT : T = 792576) {c j a : Nat} (hR : Rch K cn L c j a) : ∀ (d i n w : Nat) (mo md seen que : Nat → Int32), i + d = 16 → d < n → mo 1 = nI B → mo 26 = nI w → QS T (SRc K cn L) w seen que → VBv (Wrg K cn L) (mo 24) (mo 25) → (∀ m, m < i → DM cn L (mq K c m) mo seen c j a) → ∃ w' mo' md' seen' que', f_Mo_goOn_42 n mo mlat mc md seen que (nI (lf L 2 a)) (nI (lf L 1 a)) (nI (hb L a)) (nI (jm cn c j)) (nI c) (nI i) = some (mo', md', seen', que') ∧ GMr T (SRc K cn L) (Wrg K cn L) w mo seen que w' mo' seen' que' ∧ ∀ m, m < 16 → DM cn L (mq K c m) mo' seen' c j a
  | 0, i, n + 1, w, mo, md, seen, que, hi, hn, h1, h26, hQ, hv, hd => by
    have e : i = 16 := by omega
    subst e
    refine ⟨w, mo, md, seen, que, ?_, ⟨h26, hQ, Nat.le_refl _, fun _ _ => rfl, fun _ z => z, fun _ _ z => z, hv, fun _ _ _ _ => rfl⟩, hd⟩
    rw [f_Mo_goOn_42, if_pos (show (16 : Int32) ≤ nI 16 by decide)]
  | d + 1, i, n + 1, w, mo, md, seen, que, hi, hn, h1, h26, hQ, hv, hdn => by
    obtain ⟨hc, hj, hV⟩ := Rch_V hLJ hR
    obtain ⟨md1, c1, c2⟩ := choose_n (md := md) h h1 hc (nI i)
    have hMD : MD (mq K c i) md1 := fun b hb => by rw [mq_lt hb]; exact c2 b hb
    have hMC := MC_mq h hc i
    have hft := mfault_n (mo := mo) hMC hc hMD (nI (hb L a)) (!(j == 0))
    rw [hb_bt] at hft
    have h77 : f_Mo_goOn_42 (n + 1) mo mlat mc md seen que (nI (lf L 2 a)) (nI (lf L 1 a)) (nI (hb L a)) (nI (jm cn c j)) (nI c) (nI i) = f_Mo_goOn_77 (f_Mo_goOn_42 n) mo mlat mc md1 seen que (nI (lf L 2 a)) (nI (lf L 1 a)) (nI (hb L a)) (nI (jm cn c j)) (nI c) (nI i) (nI (FTb (mq K c i) (hd L a) (!(j == 0)))) := by
      rw [f_Mo_goOn_42, if_neg (show ¬ (16 : Int32) ≤ nI i from nI_ge (b := 16) (by omega) (by omega)), c1, Option.bind_some]
      by_cases j0 : j = 0
      · subst j0
        have e0 : nI (jm cn c 0) ≤ 0 := by
          show nI 0 ≤ 0
          decide
        have hf0 : f_Mo_faultOf mo mc md1 (nI c) (nI (hb L a)) 0 = some (nI (FTb (mq K c i) (hd L a) false)) := hft
        rw [if_pos e0, hf0, Option.bind_some]
        rfl
      · have e0 : ¬ nI (jm cn c j) ≤ 0 := by
          have := jm_le cn c j
          have h0 : 0 < jm cn c j := by
            unfold jm
            rw [if_neg j0]
            split <;> omega
          exact nI_nle h0 (by omega)
        rw [beq_false_of_ne j0] at hft ⊢
        have hf0 : f_Mo_faultOf mo mc md1 (nI c) (nI (hb L a)) 1 = some (nI (FTb (mq K c i) (hd L a) true)) := hft
        rw [if_neg e0, hf0, Option.bind_some]
        rfl
    rw [h77, gstep hLJ hMC hc hj hMD hL hV]
    by_cases hf : flt L (mq K c i) j a = 0
    · rw [if_pos hf]
      cases hh : hlt (mq K c i)
      · have hR' := Rch_s hR (show i < 16 by omega) hf hh
        obtain ⟨w1, mo1, seen1, que1, p1, p2, p3, p4, p5, p6, p7, p8⟩ := come_n hT (S := SRc K cn L) h26 hQ (s := phi cn L (ncy cn c j) (njp (mq K c i) j) (old L (mq K c i) a)) (by rw [hT]; exact phi_lt hLJ (ncy_lt _ _ _) (old_ag hLJ hV).1) ⟨_, _, _, hR', rfl⟩ (v1 := ncy cn c j) (v2 := jm cn (ncy cn c j) (njp (mq K c i) j)) (v3 := hb L (old L (mq K c i) a)) (v4 := lf L 1 (old L (mq K c i) a)) (v5 := lf L 2 (old L (mq K c i) a)) rfl
        have hg : GMr T (SRc K cn L) (Wrg K cn L) w mo seen que w1 mo1 seen1 que1 := ⟨p2, p3, p4, p5, p6, fun c f z => by rw [p8 24 (by omega), p8 25 (by omega)]; exact z, by rw [p8 24 (by omega), p8 25 (by omega)]; exact hv, fun k _ _ k3 => p8 k k3⟩
        obtain ⟨w', mo', md', seen', que', q1, q2, q3⟩ := gon_lp hLJ h hL hT hR d (i + 1) n w1 mo1 md1 seen1 que1 (by omega) (by omega) (by rw [p8 1 (by omega)]; exact h1) p2 p3 hg.2.2.2.2.2.2.1 (fun m hm => by
          by_cases e : m = i
          · subst e; exact ⟨fun z => absurd hf z, fun _ _ => p7⟩
          · exact DM_mono hg (hdn m (by omega)))
        refine ⟨w', mo', md', seen', que', ?_, GM_trans hg q2, q3⟩
        rw [if_neg (by decide), p1, Option.bind_some]
        exact q1
      · obtain ⟨w', mo', md', seen', que', q1, q2, q3⟩ := gon_lp hLJ h hL hT hR d (i + 1) n w mo md1 seen que (by omega) (by omega) h1 h26 hQ hv (fun m hm => by
          by_cases e : m = i
          · subst e; exact ⟨fun z => absurd hf z, fun _ z => by rw [hh] at z; cases z⟩
          · exact hdn m (by omega))
        refine ⟨w', mo', md', seen', que', ?_, q2, q3⟩
        rw [if_pos rfl]
        exact q1
    · obtain ⟨mo1, p1, p2, p3, p4, p5⟩ := mwrong_n hv hc (flt_lt L (mq K c i) j a) ⟨j, a, i, hR, by omega, rfl, hf⟩
      have hg : GMr T (SRc K cn L) (Wrg K cn L) w mo seen que w mo1 seen que := ⟨by rw [p5 26 (by omega) (by omega)]; exact h26, hQ, Nat.le_refl _, fun _ _ => rfl, fun _ z => z, p4, p2, fun k k1 k2 _ => p5 k k1 k2⟩
      obtain ⟨w', mo', md', seen', que', q1, q2, q3⟩ := gon_lp hLJ h hL hT hR d (i + 1) n w mo1 md1 seen que (by omega) (by omega) (by rw [p5 1 (by omega) (by omega)]; exact h1) hg.1 hQ p2 (fun m hm => by
        by_cases e : m = i
        · subst e; exact ⟨fun _ => p3, fun z => absurd z hf⟩
        · exact DM_mono hg (hdn m (by omega)))
      refine ⟨w', mo', md', seen', que', ?_, GM_trans hg q2, q3⟩
      rw [if_neg hf, p1, Option.bind_some]
      exact q1
theorem gon_n {B : Nat} {K : KT} {L : Nat → Nat} (hLJ : LJ L) {ta gu so cn de lat mlat mc : Nat → Int32} (h : RC B K ta gu so cn de mc) (hL : LL L lat mlat) {T : Nat} (hT : T = 792576) {c j a w : Nat} (hR : Rch K cn L c j a) {mo md seen que : Nat → Int32} (h1 : mo 1 = nI B) (h26 : mo 26 = nI w) (hQ : QS T (SRc K cn L) w seen que) (hv : VBv (Wrg K cn L) (mo 24) (mo 25)) : ∃ w' mo' md' seen' que', f_Mo_goOn mo mlat mc md seen que (nI (phi cn L c j a)) = some (mo', md', seen', que') ∧ GMr T (SRc K cn L) (Wrg K cn L) w mo seen que w' mo' seen' que' ∧ ∀ m, m < 16 → DM cn L (mq K c m) mo' seen' c j a := by
  obtain ⟨hc, hj, hV⟩ := Rch_V hLJ hR
  have hlt := phi_lt (cn := cn) (j := j) hLJ hc hV
  obtain ⟨u1, u2, u3, u4, u5⟩ := phi_un (cn := cn) (c := c) (j := j) hLJ hV
  obtain ⟨w', mo', md', seen', que', q1, q2, q3⟩ := gon_lp hLJ h hL hT hR 16 0 5000 w mo md seen que (by omega) (by omega) h1 h26 hQ hv (fun m hm => by omega)
  refine ⟨w', mo', md', seen', que', ?_, q2, q3⟩
  unfold f_Mo_goOn
  rw [show (3 : Int32) = nI 3 from rfl, show (4 : Int32) = nI 4 from rfl, show (12 : Int32) = nI 12 from rfl, show (8 : Int32) = nI 8 from rfl, show (96 : Int32) = nI 96 from rfl, show (129 : Int32) = nI 129 from rfl]
  rw [pk_rem (by omega) (by omega) (by omega), pk_div (d := 3) (by omega) (by omega) (by omega), pk_rem (by omega) (by omega) (by omega), pk_div (d := 12) (by omega) (by omega) (by omega), pk_rem (by omega) (by omega) (by omega), pk_div (d := 96) (by omega) (by omega) (by omega), pk_rem (by omega) (by omega) (by omega), pk_div (by omega) (by omega) (by omega)]
  rw [nm_n, nm_n, nm_n, nm_n, nm_n, u1, u2, u3, u4, u5]
  exact q1
