-- ===== desk and reference answer alike =====
theorem RL_first {x0 x1 x2 : Int32} {B l1 l2 : Nat} (hB : BV B) (h1 : 1 ≤ l1) (h2 : l1 ≤ 4) (h3 : 1 ≤ l2) (h4 : l2 ≤ 3) {lat co mc : Nat → Int32} {ub wr : Nat → Int64} (hlat : lat = upd (upd (upd z32 0 1) 1 (nI l1)) 2 (nI l2)) (hco : co 0 = nI B) (hJ : JR (fun u => if u = 0 then 1 else if u = 1 then l1 else l2) ub wr) (hmc : ∀ j, j < 256 → mc (4 * j) = mi) : RL (upd (upd z32 5 0) 6 0) lat co z32 z32 z32 z32 z32 z32 z32 z32 z32 z32 z32 z32 z32 z32 z32 z32 ub wr (upd (upd z32 24 (-1)) 1 (nI B)) (upd (upd (upd z32 0 (nI 1)) 1 (nI l1)) 2 (nI l2)) mc z32 z32 z32 z32 z32 z32 z32 z32 z32 z32 z32 := by
  have hz : ∀ k, z32 k = nI 0 := fun _ => rfl
  refine ⟨B, knone, fun u => if u = 0 then 1 else if u = 1 then l1 else l2, RC_none hB (fun j _ => rfl) hmc, hco, rfl, fun u hu => ?_, ⟨rfl, h1, h2, h3, h4⟩, hJ, ⟨⟨fun _ _ => rfl, fun _ _ => rfl, fun u _ => ?_, fun i _ _ => bt_zero i, rfl, ⟨0, by omega, rfl, rfl⟩, ⟨0, by omega, rfl, rfl, fun z => by omega⟩, ⟨0, by omega, rfl, rfl⟩⟩, ⟨fun _ _ => rfl, fun _ _ => rfl⟩, PDR_0 rfl rfl rfl⟩, ⟨fun _ => (0, 0, 0, 0, 0), 0, rfl, rfl, by omega, fun i hi => by omega⟩, ⟨0, by omega, rfl, fun i hi => by omega, fun s _ hn => absurd rfl hn⟩, rfl, rfl⟩
  · rw [hlat]
    rcases ag_u hu with rfl | rfl | rfl
    · exact ⟨rfl, rfl, by show 1 ≤ 1; omega, by show 1 ≤ 4; omega⟩
    · exact ⟨rfl, rfl, h1, h2⟩
    · exact ⟨rfl, rfl, h3, by show l2 ≤ 4; omega⟩
  · have : bt (z32 10) u = false := bt_zero u
    rw [this]; rfl
theorem math_x (g : GT) (hg : gL g ≤ 3587) : ∃ (x0 x1 x2 : Int32) (z_Ju_init : (Nat → Int64) × (Nat → Int64)) (z_Mo_init : (Nat → Int32) × (Nat → Int32) × (Nat → Int32)), some x0 = f_La_cell g 0 ∧ some x1 = f_La_cell g 1 ∧ some x2 = f_La_cell g 2 ∧ some z_Ju_init = f_Ju_init (upd (upd (upd z32 0 1) 1 (if (1 : Int32) < (if x1 < (4 : Int32) then x1 else (4 : Int32)) then (if x1 < (4 : Int32) then x1 else (4 : Int32)) else (1 : Int32))) 2 (if (1 : Int32) < (if x2 < (3 : Int32) then x2 else (3 : Int32)) then (if x2 < (3 : Int32) then x2 else (3 : Int32)) else (1 : Int32))) ∧ some z_Mo_init = f_Mo_init x0 x1 x2 ∧ some 1 = f_La_law g x0 x1 x2 z_Ju_init z_Mo_init := by
  obtain ⟨x0, e0⟩ := cell_n hg (k := 0) (by omega)
  obtain ⟨x1, e1⟩ := cell_n hg (k := 1) (by omega)
  obtain ⟨x2, e2⟩ := cell_n hg (k := 2) (by omega)
  obtain ⟨B, p1, p2, p3, p4, p5, p6⟩ := clamp_n x0 (lo := 2) (hi := 4) (by omega) (by omega)
  obtain ⟨l1, q1, q2, q3, q4, q5, q6⟩ := clamp_n x1 (lo := 1) (hi := 4) (by omega) (by omega)
  obtain ⟨l2, r1, r2, r3, r4, r5, r6⟩ := clamp_n x2 (lo := 1) (hi := 3) (by omega) (by omega)
  have hlat : (upd (upd (upd z32 0 1) 1 (if (1 : Int32) < (if x1 < (4 : Int32) then x1 else (4 : Int32)) then (if x1 < (4 : Int32) then x1 else (4 : Int32)) else (1 : Int32))) 2 (if (1 : Int32) < (if x2 < (3 : Int32) then x2 else (3 : Int32)) then (if x2 < (3 : Int32) then x2 else (3 : Int32)) else (1 : Int32))) = upd (upd (upd z32 0 1) 1 (nI l1)) 2 (nI l2) := by
    have q3' : (if (1 : Int32) < (if x1 < (4 : Int32) then x1 else (4 : Int32)) then (if x1 < (4 : Int32) then x1 else (4 : Int32)) else (1 : Int32)) = nI l1 := q3
    have r3' : (if (1 : Int32) < (if x2 < (3 : Int32) then x2 else (3 : Int32)) then (if x2 < (3 : Int32) then x2 else (3 : Int32)) else (1 : Int32)) = nI l2 := r3
    rw [q3', r3']
  have hco : upd z32 0 (if (2 : Int32) < (if x0 < (4 : Int32) then x0 else (4 : Int32)) then (if x0 < (4 : Int32) then x0 else (4 : Int32)) else (2 : Int32)) 0 = nI B := by
    rw [upd_s]; exact p3
  obtain ⟨z, j1, j2⟩ := jinit_n (L := fun u => if u = 0 then 1 else if u = 1 then l1 else l2) (lat := upd (upd (upd z32 0 1) 1 (nI l1)) 2 (nI l2)) (fun u hu => by
    rcases ag_u hu with rfl | rfl | rfl
    · exact ⟨rfl, by show 1 < 5; omega⟩
    · exact ⟨rfl, by show l1 < 5; omega⟩
    · exact ⟨rfl, by show l2 < 5; omega⟩)
  obtain ⟨mc, m1, m2⟩ := minit_n p4 p5 p6 q4 q5 q6 r4 r5 r6
  refine ⟨x0, x1, x2, z, _, e0.symm, e1.symm, e2.symm, ?_, m1.symm, ?_⟩
  · rw [hlat]; exact j1.symm
  · have hR := RL_first (x0 := x0) (x1 := x1) (x2 := x2) ⟨p1, p2⟩ q1 q2 r1 r2 hlat hco j2 m2
    exact (law_lp hg 600 3 (by omega) (by omega) (by omega) _ _ _ _ _ _ _ _ _ _ _ _ _ _ _ _ _ _ _ _ _ _ _ _ _ _ _ _ _ _ _ _ _ _ _ _ _ _ _ _ _ _ _ _ _ _ _ _ _ _ _ _ _ _ _ _ _ _ _ hR).symm
