-- ===== the sweeps come to rest =====
def GS (T : Nat) (rd : Nat → Int64) : Nat := cnt (fun q => bl (rd (q / 40)) (q % 40)) T
theorem GS_up {T : Nat} (hT : T = 23040) {rd rd' : Nat → Int64} (h : ∀ p a, bl (rd p) a = true → bl (rd' p) a = true) {p a : Nat} (hp : p < 576) (ha : a < 40) (h1 : bl (rd' p) a = true) (h2 : bl (rd p) a = false) : GS T rd < GS T rd' := by
  refine cnt_lt T (fun i _ hi => h _ _ hi) (p * 40 + a) (by omega) ?_ ?_
  · show bl (rd ((p * 40 + a) / 40)) ((p * 40 + a) % 40) = false
    rw [show (p * 40 + a) / 40 = p by omega, show (p * 40 + a) % 40 = a by omega]; exact h2
  · show bl (rd' ((p * 40 + a) / 40)) ((p * 40 + a) % 40) = true
    rw [show (p * 40 + a) / 40 = p by omega, show (p * 40 + a) % 40 = a by omega]; exact h1
theorem all_done {K : KT} {cn : Nat → Int32} {L : Nat → Nat} (hL : LJ L) {ju : Nat → Int32} {rd fr : Nat → Int64} (hS : SI K cn L ju rd fr) (hz : ∀ p, p < 576 → ∀ a, bl (fr p) a = false) : ∀ c f, Wrg K cn L c f → BT (ju 8) (ju 9) c f := by
  obtain ⟨s1, s2, s3, s4, s5⟩ := hS
  have hdn : ∀ c j a, c < 64 → j < 9 → bl (rd (c * 9 + j)) a = true → ∀ m, m < 16 → DN K cn L (mq K c m) ju rd c j a := fun c j a hc hj hb m hm => by
    have := s4 (c * 9 + j) (by omega) a hb (hz _ (by omega) a) m hm
    rw [show (c * 9 + j) / 9 = c by omega, show (c * 9 + j) % 9 = j by omega] at this
    exact this
  have hall : ∀ c j a, Rch K cn L c j a → c < 64 ∧ j < 9 ∧ bl (rd (c * 9 + j)) a = true := fun c j a hr => by
    refine hr (fun c j a => c < 64 ∧ j < 9 ∧ bl (rd (c * 9 + j)) a = true) ⟨by omega, by omega, s5⟩ (fun c j a m hP hm hf hh => ⟨ncy_lt _ _ _, njp_lt _ hP.2.1, ?_⟩)
    exact (hdn c j a hP.1 hP.2.1 hP.2.2 m hm).2 hf hh
  rintro c f ⟨j, a, m, hr, hm, hf, hne⟩
  obtain ⟨k1, k2, k3⟩ := hall c j a hr
  have := (hdn c j a k1 k2 k3 m hm).1
  rw [hf] at this
  exact this hne
theorem main_lp {B : Nat} {K : KT} {L : Nat → Nat} (hL : LJ L) {r_co ta gu so cn de mc ch : Nat → Int32} (h : RC B K ta gu so cn de mc) (hB : r_co 0 = nI B) {ub wr : Nat → Int64} (hJ : JR L ub wr) (hch : ∀ c, c < 64 → CHc K c (ch c)) {T : Nat} (hT : T = 23040) : ∀ (d v n : Nat) (ju jb : Nat → Int32) (rd fr : Nat → Int64), v + d = 23041 → d < n → SI K cn L ju rd fr → ((ju 7 = nI 0 ∧ ∀ p, p < 576 → ∀ a, bl (fr p) a = false) ∨ (ju 7 = nI 1 ∧ v < GS T rd)) → ∃ ju' jb' rd' fr', f_Ju_leastWrongCycle_6 n r_co ta gu so cn de ju jb ch rd fr ub wr (nI v) = some (ju' 8, ju', jb', ch, rd', fr') ∧ VBv (Wrg K cn L) (ju' 8) (ju' 9) ∧ ∀ c f, Wrg K cn L c f → BT (ju' 8) (ju' 9) c f
  | d, v, 0, _, _, _, _, _, hn, _, _ => by omega
  | d, v, n + 1, ju, jb, rd, fr, hi, hn, hS, hf => by
    rcases hf with ⟨z1, z2⟩ | ⟨z1, z2⟩
    · refine ⟨ju, jb, rd, fr, ?_, hS.2.2.1, all_done hL hS z2⟩
      rw [f_Ju_leastWrongCycle_6, z1, if_pos (show nI 0 = 0 from rfl)]
      rfl
    · have hG : GS T rd ≤ 23040 := by rw [← hT]; exact cnt_le _ T
      obtain ⟨d', rfl⟩ : ∃ d', d = d' + 1 := ⟨d - 1, by omega⟩
      have hS' : SI K cn L (upd ju 7 0) rd fr := by
        obtain ⟨s1, s2, s3, s4, s5⟩ := hS
        refine ⟨s1, s2, ?_, fun p hp a h1 h2 m hm => ?_, s5⟩
        · rw [upd_n (by omega), upd_n (by omega)]; exact s3
        · have := s4 p hp a h1 h2 m hm
          unfold DN at this ⊢
          rw [upd_n (by omega), upd_n (by omega)]; exact this
      obtain ⟨ju1, jb1, rd1, fr1, q1, q2, q3⟩ := sweep_lp hL h hB hJ hch (f_Ju_leastWrongCycle_6 n) rd v 576 0 5000 (upd ju 7 0) jb rd fr (by omega) (by omega) hS' ⟨fun _ _ z => z, Or.inl ⟨upd_s ju 7 0, fun p hp => by omega⟩⟩
      obtain ⟨ju', jb', rd', fr', r1, r2, r3⟩ := main_lp hL h hB hJ hch hT d' (v + 1) n ju1 jb1 rd1 fr1 (by omega) (by omega) q2 (by
        rcases q3.2 with y | ⟨y1, p, a, y2, y3, y4, y5⟩
        · exact Or.inl y
        · exact Or.inr ⟨y1, by have := GS_up hT q3.1 y2 y3 y4 y5; omega⟩)
      refine ⟨ju', jb', rd', fr', ?_, r2, r3⟩
      rw [f_Ju_leastWrongCycle_6, z1, if_neg (show ¬ nI 1 = 0 by decide), if_neg (show ¬ (23041 : Int32) ≤ nI v from nI_ge (b := 23041) (by omega) (by omega))]
      exact q1.trans r1
-- ===== the start of the judge =====
theorem jst31 {B : Nat} {K : KT} {r_co ta gu so cn de mc : Nat → Int32} (h : RC B K ta gu so cn de mc) (hB : r_co 0 = nI B) (ju : Nat → Int32) (rd fr : Nat → Int64) : ∀ (d i n : Nat) (ch : Nat → Int32), i + d = 64 → d < n → (∀ c, c < i → CHc K c (ch c)) → ∃ ch', (∀ r, f_Ju_reach (upd (upd ju 8 (-1)) 9 0) rd fr (nI 0) (nI 0) 1 = some r → f_Ju_start_31 n r_co ta gu ju ch rd fr (nI i) = some (r.1, ch', r.2.1, r.2.2)) ∧ ∀ c, c < 64 → CHc K c (ch' c)
  | 0, i, n + 1, ch, hi, hn, hx => by
    refine ⟨ch, fun r hr => ?_, fun c hc => hx c (by omega)⟩
    rw [f_Ju_start_31, if_pos (show (64 : Int32) ≤ nI i from nI_le (a := 64) (by omega) (by omega))]
    have hr' : f_Ju_reach (upd (upd ju 8 (-1)) 9 0) rd fr 0 0 1 = some r := hr
    rw [hr', Option.bind_some]
  | d + 1, i, n + 1, ch, hi, hn, hx => by
    obtain ⟨y, y1, y2⟩ := choices_n h hB (show i < 64 by omega) ju
    obtain ⟨ch', q1, q2⟩ := jst31 h hB ju rd fr d (i + 1) n (upd ch i y) (by omega) (by omega) (fun c hc => by
      by_cases e : c = i
      · subst e; rw [upd_s]; exact y2
      · rw [upd_n e]; exact hx c (by omega))
    refine ⟨ch', fun r hr => ?_, q2⟩
    rw [f_Ju_start_31, if_neg (show ¬ (64 : Int32) ≤ nI i from nI_ge (b := 64) (by omega) (by omega)), y1, Option.bind_some, ck_n (by omega) (by omega), nm_n, nI_1, nI_clamp (by omega)]
    exact q1 r hr
theorem jst2 {r_co ta gu ju ch : Nat → Int32} : ∀ (d i n : Nat) (rd fr : Nat → Int64), i + d = 576 → d < n → (∀ p, p < i → rd p = 0 ∧ fr p = 0) → ∃ rd' fr', f_Ju_start_2 n r_co ta gu ju ch rd fr (nI i) = f_Ju_start_31 5000 r_co ta gu ju ch rd' fr' (nI 0) ∧ ∀ p, p < 576 → rd' p = 0 ∧ fr' p = 0
  | 0, i, n + 1, rd, fr, hi, hn, hx => by
    refine ⟨rd, fr, ?_, fun p hp => hx p (by omega)⟩
    rw [f_Ju_start_2, if_pos (show (576 : Int32) ≤ nI i from nI_le (a := 576) (by omega) (by omega))]
    rfl
  | d + 1, i, n + 1, rd, fr, hi, hn, hx => by
    obtain ⟨rd', fr', q1, q2⟩ := jst2 (r_co := r_co) (ta := ta) (gu := gu) (ju := ju) (ch := ch) d (i + 1) n (vp_updL rd i 0) (vp_updL fr i 0) (by omega) (by omega) (fun p hp => by
      by_cases e : p = i
      · subst e; rw [updL_s, updL_s]; exact ⟨rfl, rfl⟩
      · rw [updL_n e, updL_n e]; exact hx p (by omega))
    refine ⟨rd', fr', ?_, q2⟩
    rw [f_Ju_start_2, if_neg (show ¬ (576 : Int32) ≤ nI i from nI_ge (b := 576) (by omega) (by omega)), ck_n (by omega) (by omega), ck_n (by omega) (by omega), nm_n, nI_1, nI_clamp (by omega)]
    exact q1
theorem bl_one : ∀ a, a < 64 → bl 1 a = decide (a = 0) := by decide +kernel
theorem jstart_n {B : Nat} {K : KT} {L : Nat → Nat} (hL : LJ L) {r_co ta gu so cn de mc : Nat → Int32} (h : RC B K ta gu so cn de mc) (hB : r_co 0 = nI B) (ju ch : Nat → Int32) (rd fr : Nat → Int64) : ∃ ju' ch' rd' fr', f_Ju_start r_co ta gu ju ch rd fr = some (ju', ch', rd', fr') ∧ (∀ c, c < 64 → CHc K c (ch' c)) ∧ SI K cn L ju' rd' fr' ∧ ju' 7 = nI 1 := by
  obtain ⟨rd1, fr1, p1, p2⟩ := jst2 (r_co := r_co) (ta := ta) (gu := gu) (ju := ju) (ch := ch) 576 0 5000 rd fr (by omega) (by omega) (fun p hp => by omega)
  obtain ⟨ch', c1, c2⟩ := jst31 h hB ju rd1 fr1 64 0 5000 ch (by omega) (by omega) (fun c hc => by omega)
  have hv : VBv (Wrg K cn L) (upd (upd ju 8 (-1)) 9 0 8) (upd (upd ju 8 (-1)) 9 0 9) := by
    rw [upd_n (by omega), upd_s, upd_s]
    exact Or.inl ⟨rfl, rfl⟩
  obtain ⟨ju', rd', fr', r1, r2, r3⟩ := reach_n (R := Rch K cn L) (rd := rd1) (fr := fr1) (X := 1) hv (c := 0) (j := 0) (by omega) (by omega) (fun a ha => by
    rw [bl_one a (bl_lt ha), decide_eq_true_eq] at ha
    subst ha; exact Rch_0 _ _ _) (fun a hr => (Rch_V hL hr).2.2.1)
  obtain ⟨g1, g2, g3, g4, g5, g6, g7, g8⟩ := r2
  have hz : ∀ p, p < 576 → ∀ a, bl (rd1 p) a = false ∧ bl (fr1 p) a = false := fun p hp a => by
    rw [(p2 p hp).1, (p2 p hp).2]; exact ⟨bl_zero a, bl_zero a⟩
  have s5 : bl (rd' 0) 0 = true := r3 0 (by rw [bl_one 0 (by omega)]; rfl)
  refine ⟨ju', ch', rd', fr', ?_, c2, ⟨fun p hp a ha => ?_, fun p hp a ha => ?_, g7, fun p hp a h1 h2 => ?_, s5⟩, ?_⟩
  · exact p1.trans (c1 _ r1)
  · rcases g4 p hp a ha with z | z
    · rw [(hz p hp a).1] at z; cases z
    · exact z
  · rcases g5 p a ha with z | z
    · rw [(hz p hp a).2] at z; cases z
    · exact z
  · rcases g3 p a h1 with z | z
    · rw [(hz p hp a).1] at z; cases z
    · rw [h2] at z; cases z
  · rcases g8 with ⟨_, z⟩ | ⟨z, _⟩
    · rw [(z 0).2, (hz 0 (by omega) 0).1] at s5; cases s5
    · exact z
/-- the desk judges: the least wrong cycle and its least fault -/
theorem judge_c {B : Nat} {K : KT} {L : Nat → Nat} (hL : LJ L) {r_md r_co ta gu so cn de mc : Nat → Int32} (h : RC B K ta gu so cn de mc) (hB : r_co 0 = nI B) {ub wr : Nat → Int64} (hJ : JR L ub wr) (ju jb ch : Nat → Int32) (rd fr : Nat → Int64) : ∃ x y ju' jb' ch' rd' fr', f_Md_judge r_md r_co ta gu so cn de ju jb ch rd fr ub wr = some (x, upd r_md 5 y, ju', jb', ch', rd', fr') ∧ VBv (Wrg K cn L) x y ∧ ∀ c f, Wrg K cn L c f → BT x y c f := by
  obtain ⟨ju1, ch1, rd1, fr1, s1, s2, s3, s4⟩ := jstart_n (cn := cn) hL h hB ju ch rd fr
  have hpos : 0 < GS 23040 rd1 := Nat.lt_of_le_of_lt (Nat.zero_le (GS 23040 (fun _ => 0))) (GS_up rfl (rd := fun _ => 0) (p := 0) (a := 0) (fun p a z => by rw [bl_zero] at z; cases z) (by omega) (by omega) s3.2.2.2.2 (bl_zero 0))
  obtain ⟨ju', jb', rd', fr', q1, q2, q3⟩ := main_lp hL h hB hJ s2 (T := 23040) rfl 23041 0 30000 ju1 jb rd1 fr1 (by omega) (by omega) s3 (Or.inr ⟨s4, hpos⟩)
  refine ⟨ju' 8, ju' 9, ju', jb', ch1, rd', fr', ?_, q2, q3⟩
  have e1 : f_Ju_leastWrongCycle r_co ta gu so cn de ju jb ch rd fr ub wr = some (ju' 8, ju', jb', ch1, rd', fr') := by
    rw [← q1]
    unfold f_Ju_leastWrongCycle
    rw [s1, Option.bind_some]
    rfl
  unfold f_Md_judge f_Ju_leastFault
  rw [e1, Option.bind_some, Option.bind_some]
