-- ===== calls of which the callee's cells lie in one half of the world =====
theorem P_left {D : va_G} {cl : List vw_C} {X Y : va_W} {H : Heap} (h : va_P D cl (X ++ Y) H) : va_P D cl X H := fun k q hk => h k q (by rw [List.getElem?_append_left (List.getElem?_eq_some_iff.mp hk).1]; exact hk)
theorem P_right {D : va_G} {cl : List vw_C} {X Y : va_W} {H : Heap} (h : va_P D cl (X ++ Y) H) : va_P D cl Y H := fun k q hk => h (X.length + k) q (by rw [List.getElem?_append_right (Nat.le_add_right _ _), Nat.add_sub_cancel_left]; exact hk)
theorem D_left {A : Nat → Prop} {X Y : va_W} (h : va_D A (X ++ Y)) : va_D A X :=
  ⟨fun i j p q hi hj e => h.1 i j p q (by rw [List.getElem?_append_left (List.getElem?_eq_some_iff.mp hi).1]; exact hi) (by rw [List.getElem?_append_left (List.getElem?_eq_some_iff.mp hj).1]; exact hj) e,
   fun k q hk => h.2 k q (by rw [List.getElem?_append_left (List.getElem?_eq_some_iff.mp hk).1]; exact hk)⟩
theorem D_right {A : Nat → Prop} {X Y : va_W} (h : va_D A (X ++ Y)) : va_D A Y :=
  ⟨fun i j p q hi hj e => by
    have := h.1 (X.length + i) (X.length + j) p q (by rw [List.getElem?_append_right (Nat.le_add_right _ _), Nat.add_sub_cancel_left]; exact hi) (by rw [List.getElem?_append_right (Nat.le_add_right _ _), Nat.add_sub_cancel_left]; exact hj) e
    omega,
   fun k q hk => h.2 (X.length + k) q (by rw [List.getElem?_append_right (Nat.le_add_right _ _), Nat.add_sub_cancel_left]; exact hk)⟩
theorem D_apart {A : Nat → Prop} {X Y : va_W} (h : va_D A (X ++ Y)) {i j : Nat} {p q : Nat × va_E} (hi : X[i]? = some p) (hj : Y[j]? = some q) : p.1 ≠ q.1 := fun e => by
  have hl := (List.getElem?_eq_some_iff.mp hi).1
  have := h.1 i (X.length + j) p q (by rw [List.getElem?_append_left hl]; exact hi) (by rw [List.getElem?_append_right (Nat.le_add_right _ _), Nat.add_sub_cancel_left]; exact hj) e
  omega
theorem at_map {ws w : va_W} {is : List Nat} (hs : is.map (fun i => ws[i]?) = w.map some) {k : Nat} {q : Nat × va_E} (hq : w[k]? = some q) : ∃ i : Nat, ws[i]? = some q := by
  have h1 : (is.map (fun i => ws[i]?))[k]? = some (some q) := by rw [hs, List.getElem?_map, hq]; rfl
  rw [List.getElem?_map] at h1
  cases hi : is[k]? with
  | none => rw [hi] at h1; cases h1
  | some i => rw [hi] at h1; exact ⟨i, Option.some.inj h1⟩
section KF
variable {p : Program} {l : Launch} {e : Env} {R : Room} {s : State} {m : MethodId} {args : Array Value} {below : List Frame} {meth : Method} {c : Code} {H : Heap} {locs : List Loc} {cells slots : Nat} {Q : State → Prop}
variable {cc : ByteArray} {nL : Nat} {rt : Option FieldType} {own : String} {g : GT} {A : Nat → Prop} {y : MethodName} {bytes : ByteArray} {maxL n index mc ms : Nat} {ret : Option FieldType} {rm : Room} {As rest st0 : List Value} {ws wo wc wr w1 ws2 : va_W} {rv : Option Value} {pc : Nat} {ls : Array Slot}
/-- ws holds the callee's cells, wo doesn't: what it is behind the call -/
theorem f_half {H1 : Heap} (hP : va_P g.1 classes ws H) (hPo : va_P g.1 classes wo H) (hD : va_D A ws) (hDo : va_D A wo) (hap : ∀ (i j : Nat) (p q : Nat × va_E), ws[i]? = some p → wo[j]? = some q → p.1 ≠ q.1) (hF : ∀ q, va_A wc H.size q → A q)
    (isC isR isX : List Nat) (hC : isC.map (fun i => ws[i]?) = wc.map some) (hR : isR.map (fun i => ws[i]?) = wr.map some) (hnR : va_nd isR = true) (hdis : ∀ i ∈ isR, i ∉ isC) (hnX : va_nd isX = true) (hX : isX.map (fun i => (wr ++ w1)[i]?) = ws2.map some)
    (hk : ∀ q : Nat, q < H.size → ¬ va_A wc H.size q → H1[q]? = H[q]?) (hP1 : va_P g.1 classes w1 H1) (hD1 : va_D (va_A wc H.size) w1) :
    va_P g.1 classes ws2 H1 ∧ va_D A ws2 ∧ va_P g.1 classes wo H1 ∧ ∀ (i j : Nat) (p q : Nat × va_E), ws2[i]? = some p → wo[j]? = some q → p.1 ≠ q.1 := by
  obtain ⟨hP2, hD2⟩ := va_join (wr := wr) (w1 := w1) (H1 := H1) hP hD isC isR hC hR hnR hdis hk hF hP1 hD1
  have hnot : ∀ (j : Nat) (q : Nat × va_E), wo[j]? = some q → ¬ va_A wc H.size q.1 := fun j q hj h => by
    rcases h with ⟨k, e, h⟩ | h
    · obtain ⟨i, hi⟩ := at_map hC h
      exact hap i j _ _ hi hj rfl
    · exact absurd (hPo j q hj).lt (Nat.not_lt.mpr h)
  refine ⟨P_map hP2 isX hX, hD2.sub isX hnX hX, hPo.kept (fun k q hq => hk q.1 (hPo k q hq).lt (hnot k q hq)), fun i j p q hi hj e => ?_⟩
  obtain ⟨k, hk2⟩ := at_map hX hi
  rcases Nat.lt_or_ge k wr.length with hlt | hge
  · rw [List.getElem?_append_left hlt] at hk2
    obtain ⟨z, hz⟩ := at_map hR hk2
    exact hap z j _ _ hz hj e
  · rw [List.getElem?_append_right hge] at hk2
    exact hnot j q hj (by rw [← e]; exact hD1.2 _ _ hk2)
theorem D_append {X Y : va_W} (hX : va_D A X) (hY : va_D A Y) (hap : ∀ (i j : Nat) (p q : Nat × va_E), X[i]? = some p → Y[j]? = some q → p.1 ≠ q.1) : va_D A (X ++ Y) := va_D.app hX hY (fun i j x y hx hy hxy => hap i j x y hx hy hxy)
/-- left half: the callee's -/
theorem k_goL {a : Array Value} (hP : va_P g.1 classes (ws ++ wo) H) (hD : va_D A (ws ++ wo)) (hS : va_S A s.heap H locs) (hA : ∀ q, s.heap.size ≤ q → A q)
    (isC isR isX : List Nat) (hC : isC.map (fun i => ws[i]?) = wc.map some) (hR : isR.map (fun i => ws[i]?) = wr.map some) (hnR : va_nd isR = true) (hdis : ∀ i ∈ isR, i ∉ isC) (hnX : va_nd isX = true) (hX : isX.map (fun i => (wr ++ w1)[i]?) = ws2.map some)
    (hr : va_Run p l e R s m args below meth c H locs cells slots mc ms (F0 m pc ls st0) rest (QW g rv w1 (va_A wc H.size) a) (va_A wc H.size))
    (kk : ∀ (H1 : Heap) (locs1 : List Loc), va_P g.1 classes (ws2 ++ wo) H1 → va_D A (ws2 ++ wo) → va_S A s.heap H1 locs1 → W p l e R s m args below meth c H1 locs1 (cells + mc) (slots + ms) Q (F0 m (pc + 3) ls (rv.toList ++ rest))) :
    W p l e R s m args below meth c H locs cells slots Q (F0 m pc ls st0) := by
  have hF : ∀ q, va_A wc H.size q → A q := va_free (wc := wc) (D_left hD) hS hA isC hC
  intro T hT X
  obtain ⟨v, st₀, t, T', L, h0, X', hL, e1, e2, ⟨⟨hv, hP1, hK1, hD1⟩, hz, hk⟩, st⟩ := hr T hT X
  cases hv
  rw [h0] at hz hk
  obtain ⟨q1, q2, q3, q4⟩ := f_half (H1 := t.heap) (P_left hP) (P_right hP) (D_left hD) (D_right hD) (fun i j p q hi hj => D_apart hD hi hj) hF isC isR isX hC hR hnR hdis hnX hX hk hP1 hD1
  obtain ⟨t2, a1, b1⟩ := kk T'.heap (locs ++ L) (by rw [e1]; exact q1.app q3) (D_append q2 (D_right hD) q4)
    ⟨Nat.le_trans hS.1 (by rw [e1]; exact hz), fun q h1 h2 => by rw [e1, hk q (Nat.lt_of_lt_of_le h1 hS.1) (fun z => h2 (hF q z))]; exact hS.2.1 q h1 h2, fun q hq => by
      rcases List.mem_append.mp hq with h | h
      · exact hS.2.2 q h
      · exact hF _ (hL q h)⟩ T' rfl X'
  exact ⟨t2, st t2 a1, b1⟩
/-- right half: the callee's -/
theorem k_goR {a : Array Value} (hP : va_P g.1 classes (wo ++ ws) H) (hD : va_D A (wo ++ ws)) (hS : va_S A s.heap H locs) (hA : ∀ q, s.heap.size ≤ q → A q)
    (isC isR isX : List Nat) (hC : isC.map (fun i => ws[i]?) = wc.map some) (hR : isR.map (fun i => ws[i]?) = wr.map some) (hnR : va_nd isR = true) (hdis : ∀ i ∈ isR, i ∉ isC) (hnX : va_nd isX = true) (hX : isX.map (fun i => (wr ++ w1)[i]?) = ws2.map some)
    (hr : va_Run p l e R s m args below meth c H locs cells slots mc ms (F0 m pc ls st0) rest (QW g rv w1 (va_A wc H.size) a) (va_A wc H.size))
    (kk : ∀ (H1 : Heap) (locs1 : List Loc), va_P g.1 classes (wo ++ ws2) H1 → va_D A (wo ++ ws2) → va_S A s.heap H1 locs1 → W p l e R s m args below meth c H1 locs1 (cells + mc) (slots + ms) Q (F0 m (pc + 3) ls (rv.toList ++ rest))) :
    W p l e R s m args below meth c H locs cells slots Q (F0 m pc ls st0) := by
  have hF : ∀ q, va_A wc H.size q → A q := va_free (wc := wc) (D_right hD) hS hA isC hC
  intro T hT X
  obtain ⟨v, st₀, t, T', L, h0, X', hL, e1, e2, ⟨⟨hv, hP1, hK1, hD1⟩, hz, hk⟩, st⟩ := hr T hT X
  cases hv
  rw [h0] at hz hk
  obtain ⟨q1, q2, q3, q4⟩ := f_half (H1 := t.heap) (P_right hP) (P_left hP) (D_right hD) (D_left hD) (fun i j p q hi hj e => D_apart hD hj hi e.symm) hF isC isR isX hC hR hnR hdis hnX hX hk hP1 hD1
  obtain ⟨t2, a1, b1⟩ := kk T'.heap (locs ++ L) (by rw [e1]; exact q3.app q1) (D_append (D_left hD) q2 (fun i j p q hi hj e => q4 j i q p hj hi e.symm))
    ⟨Nat.le_trans hS.1 (by rw [e1]; exact hz), fun q h1 h2 => by rw [e1, hk q (Nat.lt_of_lt_of_le h1 hS.1) (fun z => h2 (hF q z))]; exact hS.2.1 q h1 h2, fun q hq => by
      rcases List.mem_append.mp hq with h | h
      · exact hS.2.2 q h
      · exact hF _ (hL q h)⟩ T' rfl X'
  exact ⟨t2, st t2 a1, b1⟩
theorem kVL {C : String} {b : Nat} (M : MX p s m args meth c cc nL rt own g A) (hP : va_P g.1 classes (ws ++ wo) H) (hD : va_D A (ws ++ wo)) (hS : va_S A s.heap H locs) (hsz : ls.size = nL)
    (hM : Ct l y (.code y bytes maxL ret) rm g (.ref b :: As) wc w1 rv)
    (h1 : Cond.methodLink own index y ∈ bw) (h2 : Cond.instanceMethod y ∈ bw) (h3 : Cond.selects C y y ∈ bw) (h4 : Cond.initialized C ∈ bw) (h5 : Cond.code y bytes maxL ret ∈ bw)
    (hd : y.cls = C ∧ y.cls ≠ "java/lang/invoke/MethodHandle" ∧ y.cls ≠ "java/lang/invoke/VarHandle" ∧ (parseMethodDescriptor y.desc).map (fun d => d.parameters.length) = some n) (hn : As.length = n)
    (hrc : rm.cells = 0) (hrs : rm.slots = 0) (hRm : rm.frames + 1 ≤ R.frames ∧ 8 + (maxL + 11) + rm.locals ≤ R.locals) (hcs : cells ≤ R.cells ∧ slots ≤ R.slots)
    (ci q0 : Nat) {q : vw_C} {fs : List Value} (hc : classes[ci]? = some q) (hq : q.1 = C) (he : wc[q0]? = some (b, .inr (ci, fs)))
    (isC isR isX : List Nat) (hC : isC.map (fun i => ws[i]?) = wc.map some) (hR : isR.map (fun i => ws[i]?) = wr.map some) (hnC : va_nd isC = true) (hnR : va_nd isR = true) (hdis : ∀ i ∈ isR, i ∉ isC) (hnX : va_nd isX = true) (hX : isX.map (fun i => (wr ++ w1)[i]?) = ws2.map some)
    (hst : st0 = As.reverse ++ .ref b :: rest) (hW : (rest.map fun v => v.category).sum ≤ 8) (hdg : decode cc pc = .ok (.invokevirtual index, 3))
    (kk : ∀ (H : Heap) (locs : List Loc), va_P g.1 classes (ws2 ++ wo) H → va_D A (ws2 ++ wo) → va_S A s.heap H locs → W p l e R s m args below meth c H locs cells slots Q (F0 m (pc + 3) ls (rv.toList ++ rest))) :
    W p l e R s m args below meth c H locs cells slots Q (F0 m pc ls st0) := by
  obtain ⟨hx, hb, hr, hml, hown, hts, hlocks, hA, hK, hG⟩ := M
  refine k_goL hP hD hS hA isC isR isX hC hR hnR hdis hnX hX (va_runV (As := As) (rest := rest) ⟨hx, hb, hml, hown, hts⟩ (hM H.size) (cwV n hts (gi_cons h1 (gi_cons h2 (gi_cons h3 (gi_cons h4 (gi_all h5))))) rfl hrc hrs hd hRm) ⟨PW_blind, ?_, fun U hU hW => ⟨rfl, k_pre hK (P_left hP) (D_left hD) hS hA hG isC hnC hC U hU hW⟩⟩ rfl hn hsz hst (lv_room hW) hdg ⟨hcs.1, hcs.2⟩) kk
  have hr := va_recv hK (P_map (P_left hP) isC hC) hc he
  rw [hq] at hr
  exact hr
theorem kVR {C : String} {b : Nat} (M : MX p s m args meth c cc nL rt own g A) (hP : va_P g.1 classes (wo ++ ws) H) (hD : va_D A (wo ++ ws)) (hS : va_S A s.heap H locs) (hsz : ls.size = nL)
    (hM : Ct l y (.code y bytes maxL ret) rm g (.ref b :: As) wc w1 rv)
    (h1 : Cond.methodLink own index y ∈ bw) (h2 : Cond.instanceMethod y ∈ bw) (h3 : Cond.selects C y y ∈ bw) (h4 : Cond.initialized C ∈ bw) (h5 : Cond.code y bytes maxL ret ∈ bw)
    (hd : y.cls = C ∧ y.cls ≠ "java/lang/invoke/MethodHandle" ∧ y.cls ≠ "java/lang/invoke/VarHandle" ∧ (parseMethodDescriptor y.desc).map (fun d => d.parameters.length) = some n) (hn : As.length = n)
    (hrc : rm.cells = 0) (hrs : rm.slots = 0) (hRm : rm.frames + 1 ≤ R.frames ∧ 8 + (maxL + 11) + rm.locals ≤ R.locals) (hcs : cells ≤ R.cells ∧ slots ≤ R.slots)
    (ci q0 : Nat) {q : vw_C} {fs : List Value} (hc : classes[ci]? = some q) (hq : q.1 = C) (he : wc[q0]? = some (b, .inr (ci, fs)))
    (isC isR isX : List Nat) (hC : isC.map (fun i => ws[i]?) = wc.map some) (hR : isR.map (fun i => ws[i]?) = wr.map some) (hnC : va_nd isC = true) (hnR : va_nd isR = true) (hdis : ∀ i ∈ isR, i ∉ isC) (hnX : va_nd isX = true) (hX : isX.map (fun i => (wr ++ w1)[i]?) = ws2.map some)
    (hst : st0 = As.reverse ++ .ref b :: rest) (hW : (rest.map fun v => v.category).sum ≤ 8) (hdg : decode cc pc = .ok (.invokevirtual index, 3))
    (kk : ∀ (H : Heap) (locs : List Loc), va_P g.1 classes (wo ++ ws2) H → va_D A (wo ++ ws2) → va_S A s.heap H locs → W p l e R s m args below meth c H locs cells slots Q (F0 m (pc + 3) ls (rv.toList ++ rest))) :
    W p l e R s m args below meth c H locs cells slots Q (F0 m pc ls st0) := by
  obtain ⟨hx, hb, hr, hml, hown, hts, hlocks, hA, hK, hG⟩ := M
  refine k_goR hP hD hS hA isC isR isX hC hR hnR hdis hnX hX (va_runV (As := As) (rest := rest) ⟨hx, hb, hml, hown, hts⟩ (hM H.size) (cwV n hts (gi_cons h1 (gi_cons h2 (gi_cons h3 (gi_cons h4 (gi_all h5))))) rfl hrc hrs hd hRm) ⟨PW_blind, ?_, fun U hU hW => ⟨rfl, k_pre hK (P_right hP) (D_right hD) hS hA hG isC hnC hC U hU hW⟩⟩ rfl hn hsz hst (lv_room hW) hdg ⟨hcs.1, hcs.2⟩) kk
  have hr := va_recv hK (P_map (P_right hP) isC hC) hc he
  rw [hq] at hr
  exact hr
theorem kSWL {hh : List (Nat × Nat × Nat × Nat)} (M : MX p s m args meth c cc nL rt own g A) (hP : va_P g.1 classes (ws ++ wo) H) (hD : va_D A (ws ++ wo)) (hS : va_S A s.heap H locs) (hsz : ls.size = nL)
    (hM : CtM l y (.codeWith y bytes maxL ret hh) rm g As wc w1 rv mc ms)
    (h1 : Cond.methodLink own index y ∈ bw) (h2 : Cond.static y ∈ bw) (h4 : Cond.initialized y.cls ∈ bw) (h5 : Cond.codeWith y bytes maxL ret hh ∈ bw)
    (hd : y.cls ≠ "java/lang/invoke/MethodHandle" ∧ y.cls ≠ "java/lang/invoke/VarHandle" ∧ (parseMethodDescriptor y.desc).map (fun d => d.parameters.length) = some n) (hn : As.length = n)
    (hrc : rm.cells = mc) (hrs : rm.slots = ms) (hRm : rm.frames + 1 ≤ R.frames ∧ 8 + (maxL + 11) + rm.locals ≤ R.locals) (hcs : cells + mc ≤ R.cells ∧ slots + ms ≤ R.slots)
    (isC isR isX : List Nat) (hC : isC.map (fun i => ws[i]?) = wc.map some) (hR : isR.map (fun i => ws[i]?) = wr.map some) (hnC : va_nd isC = true) (hnR : va_nd isR = true) (hdis : ∀ i ∈ isR, i ∉ isC) (hnX : va_nd isX = true) (hX : isX.map (fun i => (wr ++ w1)[i]?) = ws2.map some)
    (hst : st0 = As.reverse ++ rest) (hW : (rest.map fun v => v.category).sum ≤ 8) (hdg : decode cc pc = .ok (.invokestatic index, 3))
    (kk : ∀ (H : Heap) (locs : List Loc), va_P g.1 classes (ws2 ++ wo) H → va_D A (ws2 ++ wo) → va_S A s.heap H locs → W p l e R s m args below meth c H locs (cells + mc) (slots + ms) Q (F0 m (pc + 3) ls (rv.toList ++ rest))) :
    W p l e R s m args below meth c H locs cells slots Q (F0 m pc ls st0) := by
  obtain ⟨hx, hb, hr, hml, hown, hts, hlocks, hA, hK, hG⟩ := M
  refine k_goL hP hD hS hA isC isR isX hC hR hnR hdis hnX hX (a := As.toArray) ?_ kk
  have hws : ∀ w ∈ Cond.codeWith y bytes maxL ret hh :: bw, ∀ (a' : Array Value) (U : State), s.WarmedH U.vm → w.before a' U = true := fun w hw a' U hW => by
    rcases List.mem_cons.mp hw with rfl | hw
    · exact word_at hW (bw_good h5) (hts _ h5)
    · exact word_at hW (bw_good hw) (hts _ hw)
  have hB : Back l R p e below s args y 3 8 (PreOf R mc ms (va_Pc As (PW g wc H.size))) (PostOf (QW g rv w1 (va_A wc H.size)) mc ms (va_A wc H.size)) :=
    va_backW (bytes := bytes) (maxL := maxL) (ret := ret) (hh := hh) (hM H.size) PW_blind hrc hrs hRm.1 hRm.2 hws List.mem_cons_self (fun a' U hW => word_at hW (Or.inl (by first | rfl | simp [Cond.onTables, Cond.keeps, Cond.steady])) (hts _ h4))
  intro T hT X
  obtain ⟨mk, methM, cM, hnamed, hmethM, -, -, -, -, -, -, hsigM⟩ := Cond.codeWith_spec (hts _ h5)
  have hstatic : methM.isStatic = true := Cond.static_spec hnamed hmethM (hts _ h2)
  obtain ⟨kP, hkP, -⟩ := className_of_methodNamed hnamed
  have hinitP : kP.init = .initialized := Cond.initialized_spec (findClass_of_methodNamed hnamed) hkP (hts _ h4)
  have hlen : As.length = methM.sig.parameters.length := by
    have h9 := hd.2.2
    rw [hsigM] at h9
    rw [hn]
    exact (Option.some.inj h9).symm
  obtain ⟨vm₁, X₁, hstep₁⟩ := X.invokestatic hx hown (hts _ h1) hnamed hmethM hstatic hkP hinitP ⟨hd.1, hd.2.1⟩ (g := F0 m pc ls st0) rfl (argsL := As) (rest := rest) hlen hst (by rw [hb]; exact hdg)
  obtain ⟨v, ⟨U', l2, c2, s2⟩, X', hpost, hsteps⟩ := hB m meth c ⟨T.setVm vm₁, locs, cells, slots⟩ (F0 m pc ls rest) (.invokestatic index) mk As.toArray X₁ rfl (hsz.trans hml.symm) (by rw [hb]; exact hdg) (lv_room hW) (X₁.named hnamed) ⟨hcs.1, hcs.2, ⟨rfl, k_pre hK (P_left hP) (D_left hD) hS hA hG isC hnC hC _ hT X₁.warmed⟩⟩
  obtain ⟨g', mk', t, L, e1, e2, hq, q1, hL, q2, q3⟩ := hpost
  dsimp only [Pt.U, Pt.locs, Pt.cells, Pt.slots] at X' e1 e2 q1 q2 q3 hsteps
  subst q1; subst q2; subst q3
  exact ⟨v, (T.setVm vm₁).calling g' mk' As.toArray, t, U', L, hT, X', hL, e1, e2, hq, fun target h => hstep₁ _ fun acts => by rw [doInvoke_state]; exact hsteps.trans h⟩
end KF

