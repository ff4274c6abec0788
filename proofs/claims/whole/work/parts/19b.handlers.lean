-- ===== methods with handlers; contracts that make cells =====
def CtM (l : Launch) (y : MethodName) (cw : Cond) (rm : Room) (g : GT) (av : List Value) (ws w1 : va_W) (rv : Option Value) (mc ms : Nat) : Prop := ∀ sz, Met l y (cw :: bw) rm (va_Pc av (PW g ws sz)) (QW g rv w1 (va_A ws sz)) mc ms (va_A ws sz)
abbrev tabf (h : ExceptionTableEntry) : Nat × Nat × Nat × Nat := (h.startPc, h.endPc, h.handlerPc, h.catchType)
theorem ct_inW {l : Launch} {y : MethodName} {cc : ByteArray} {maxL mc ms : Nat} {rt : Option FieldType} {rm : Room} {g : GT} {av : List Value} {ws w1 : va_W} {rv : Option Value} {C : String} {hh : List (Nat × Nat × Nat × Nat)} (hC : y.cls = C) (hy : plainName y.cls = true) (hn : (lg_sl av).length ≤ maxL)
    (body : ∀ (p : Program) (e : Env) (s : State) (m : MethodId) (below : List Frame) (meth : Method) (c : Code) (A : Nat → Prop) (ls : Array Slot), MX p s m av.toArray meth c cc maxL rt C g A → c.exceptionTable.toList.map tabf = hh → va_P g.1 classes ws s.heap → va_D A ws → va_S A s.heap s.heap [] → lv_has ls maxL (lv_args 0 av) →
      W p l e rm s m av.toArray below meth c s.heap [] 0 0 (MQ below (QW g rv w1 A) av.toArray s mc ms A) (F0 m 0 ls [])) :
    CtM l y (.codeWith y cc maxL rt hh) rm g av ws w1 rv mc ms := by
  intro sz
  refine va_MetW (cc := cc) (maxL := maxL) (ret := rt) (hh := hh) hy rfl ?_
  intro p e s m args below meth c s₁ B hml hv
  obtain ⟨rfl, hsz, hP, hK, hD0, hG⟩ := hv
  have hts := atoms_spec (ws := Cond.codeWith y cc maxL rt hh :: bw) B.pre
  have hown : s.vm.findClass C = some m.cls := by rw [← hC]; exact findClass_of_methodNamed B.named
  have htab : c.exceptionTable.toList.map tabf = hh := by
    obtain ⟨m9, meth9, c9, hn9, hm9, hc9, -, -, he9, -⟩ := Cond.codeWith_spec (hts _ List.mem_cons_self)
    cases B.named.symm.trans hn9
    cases B.method.symm.trans hm9
    cases (Stand.of_body B).code.symm.trans hc9
    exact he9
  subst hsz
  have hl := lv_entry av (n := maxL) hn
  rw [lg_entry_eq]
  exact body p e s m below meth c _ _ ⟨B.exec, B.bytes, B.returns, hml, hown, fun w h => hts w (List.mem_cons_of_mem _ h), B.notSynchronized, fun q h => Or.inr h, hK, hG⟩ htab hP (hD0.self (sz := s.heap.size)) va_S.rf hl
theorem tab_cons {L : List ExceptionTableEntry} {a b c d : Nat} {r : List (Nat × Nat × Nat × Nat)} (h : L.map tabf = (a, b, c, d) :: r) : ∃ x t, L = x :: t ∧ x.startPc = a ∧ x.endPc = b ∧ x.handlerPc = c ∧ x.catchType = d ∧ t.map tabf = r := by
  cases L with
  | nil => cases h
  | cons x t =>
    rw [List.map_cons] at h
    injection h with h1 h2
    injection h1 with h3 h4
    injection h4 with h5 h6
    injection h6 with h7 h8
    exact ⟨x, t, rfl, h3, h5, h7, h8, h2⟩
section KW
variable {p : Program} {l : Launch} {e : Env} {R : Room} {s : State} {m : MethodId} {args : Array Value} {below : List Frame} {meth : Method} {c : Code} {H : Heap} {locs : List Loc} {cells slots : Nat} {Q : State → Prop}
variable {cc : ByteArray} {nL : Nat} {rt : Option FieldType} {own : String} {g : GT} {A : Nat → Prop} {y : MethodName} {bytes : ByteArray} {maxL n index mc ms : Nat} {ret : Option FieldType} {rm : Room} {As rest st0 : List Value} {ws wc w1 ws2 : va_W} {rv : Option Value} {pc : Nat} {ls : Array Slot}
theorem kf_first (M : MX p s m args meth c cc nL rt own g A) {cls : String} {s0 e0 h0 t0 : Nat} {r : List (Nat × Nat × Nat × Nat)} (ht : c.exceptionTable.toList.map tabf = (s0, e0, h0, t0) :: r) (hcov : (decide (s0 ≤ pc) && decide (pc < e0)) = true) (hne : t0 ≠ 0) (hl : Cond.classLink own t0 cls ∈ bw) (hc : Cond.castable cls cls ∈ exw) :
    ∀ (T : State) (locs1 : List Loc) (a : Nat) (ce : Cell), Stand p l e R s m args below meth c T locs1 cells slots → T.heap[a]? = some ce → ce.vm = .none → s.vm.findClass cls = some ce.cls → ∃ vm', s.WarmedH vm' ∧ Sx e ((T.setTop (F0 m pc ls rest)).pushFrame (.throwing a)) (F0 m pc ls rest) a c.exceptionTable.toList h0 vm' := by
  obtain ⟨hx, hb, hr, hml, hown, hts, hlocks, hA, hK, hG⟩ := M
  intro T locs1 a ce X h1 h2 h3
  obtain ⟨x, t, htab, e1, e2, e3, e4, -⟩ := tab_cons ht
  subst e1; subst e2; subst e3; subst e4
  exact sx_first X rfl hown h1 h2 h3 htab hcov hne (hts _ hl) (hG.2.2.2.2.1.1 _ hc)
theorem kf_second (M : MX p s m args meth c cc nL rt own g A) {cls cls1 : String} {s0 e0 h0 t0 s1 e1 h1 t1 : Nat} {r : List (Nat × Nat × Nat × Nat)} (ht : c.exceptionTable.toList.map tabf = (s1, e1, h1, t1) :: (s0, e0, h0, t0) :: r) (hcov1 : (decide (s1 ≤ pc) && decide (pc < e1)) = true) (hne1 : t1 ≠ 0) (hl1 : Cond.classLink own t1 cls1 ∈ bw) (hno : va_Nc cls cls1 s)
    (hcov : (decide (s0 ≤ pc) && decide (pc < e0)) = true) (hne : t0 ≠ 0) (hl : Cond.classLink own t0 cls ∈ bw) (hc : Cond.castable cls cls ∈ exw) :
    ∀ (T : State) (locs1 : List Loc) (a : Nat) (ce : Cell), Stand p l e R s m args below meth c T locs1 cells slots → T.heap[a]? = some ce → ce.vm = .none → s.vm.findClass cls = some ce.cls → ∃ vm', s.WarmedH vm' ∧ Sx e ((T.setTop (F0 m pc ls rest)).pushFrame (.throwing a)) (F0 m pc ls rest) a c.exceptionTable.toList h0 vm' := by
  obtain ⟨hx, hb, hr, hml, hown, hts, hlocks, hA, hK, hG⟩ := M
  intro T locs1 a ce X q1 q2 q3
  obtain ⟨x1, t', htab, f1, f2, f3, f4, ht'⟩ := tab_cons ht
  obtain ⟨x, t, htab', e1, e2, e3, e4, -⟩ := tab_cons ht'
  subst f1; subst f2; subst f3; subst f4; subst e1; subst e2; subst e3; subst e4; subst htab'
  exact sx_second X rfl hown q1 q2 q3 htab hcov1 hne1 (hts _ hl1) hno hcov hne (hts _ hl) (hG.2.2.2.2.1.1 _ hc)
theorem k_goM {a : Array Value} (hK : va_K g.1 classes (gty g) s) (hP : va_P g.1 classes ws H) (hD : va_D A ws) (hS : va_S A s.heap H locs) (hA : ∀ q, s.heap.size ≤ q → A q)
    (isC isR isX : List Nat) (hC : isC.map (fun i => ws[i]?) = wc.map some) (hR : isR.all (fun i => decide (i < ws.length)) = true) (hnR : va_nd isR = true) (hdis : ∀ i ∈ isR, i ∉ isC) (hnX : va_nd isX = true) (hX : isX.map (fun i => ((isR.filterMap (fun i => ws[i]?)) ++ w1)[i]?) = ws2.map some)
    (hr : va_Run p l e R s m args below meth c H locs cells slots mc ms (F0 m pc ls st0) rest (QW g rv w1 (va_A wc H.size) a) (va_A wc H.size))
    (kk : ∀ (H1 : Heap) (locs1 : List Loc), va_P g.1 classes ws2 H1 → va_D A ws2 → va_S A s.heap H1 locs1 → W p l e R s m args below meth c H1 locs1 (cells + mc) (slots + ms) Q (F0 m (pc + 3) ls (rv.toList ++ rest))) :
    W p l e R s m args below meth c H locs cells slots Q (F0 m pc ls st0) := by
  have hF : ∀ q, va_A wc H.size q → A q := va_free (wc := wc) hD hS hA isC hC
  intro T hT X
  obtain ⟨v, st₀, t, T', L, h0, X', hL, e1, e2, ⟨⟨hv, hP1, hK1, hD1⟩, hz, hk⟩, st⟩ := hr T hT X
  cases hv
  rw [h0] at hz hk
  obtain ⟨hP2, hD2⟩ := va_join (wr := isR.filterMap (fun i => ws[i]?)) (w1 := w1) (H1 := t.heap) hP hD isC isR hC (R_map isR hR) hnR hdis (fun q h1 h2 => hk q h1 h2) hF hP1 hD1
  obtain ⟨t2, a1, b1⟩ := kk T'.heap (locs ++ L) (by rw [e1]; exact P_map hP2 isX hX) (hD2.sub isX hnX hX)
    ⟨Nat.le_trans hS.1 (by rw [e1]; exact hz), fun q h1 h2 => by rw [e1, hk q (Nat.lt_of_lt_of_le h1 hS.1) (fun z => h2 (hF q z))]; exact hS.2.1 q h1 h2, fun q hq => by
      rcases List.mem_append.mp hq with h | h
      · exact hS.2.2 q h
      · exact hF _ (hL q h)⟩ T' rfl X'
  exact ⟨t2, st t2 a1, b1⟩
/-- a static call of a method with handlers, of the same class -/
theorem kSW {hh : List (Nat × Nat × Nat × Nat)} (M : MX p s m args meth c cc nL rt own g A) (hP : va_P g.1 classes ws H) (hD : va_D A ws) (hS : va_S A s.heap H locs) (hsz : ls.size = nL)
    (hM : CtM l y (.codeWith y bytes maxL ret hh) rm g As wc w1 rv mc ms)
    (h1 : Cond.methodLink own index y ∈ bw) (h2 : Cond.static y ∈ bw) (h4 : Cond.initialized y.cls ∈ bw) (h5 : Cond.codeWith y bytes maxL ret hh ∈ bw)
    (hd : y.cls ≠ "java/lang/invoke/MethodHandle" ∧ y.cls ≠ "java/lang/invoke/VarHandle" ∧ (parseMethodDescriptor y.desc).map (fun d => d.parameters.length) = some n) (hn : As.length = n)
    (hrc : rm.cells = mc) (hrs : rm.slots = ms) (hRm : rm.frames + 1 ≤ R.frames ∧ 8 + (maxL + 11) + rm.locals ≤ R.locals) (hcs : cells + mc ≤ R.cells ∧ slots + ms ≤ R.slots)
    (isC isR isX : List Nat) (hC : isC.map (fun i => ws[i]?) = wc.map some) (hR : isR.all (fun i => decide (i < ws.length)) = true) (hnC : va_nd isC = true) (hnR : va_nd isR = true) (hdis : ∀ i ∈ isR, i ∉ isC) (hnX : va_nd isX = true) (hX : isX.map (fun i => ((isR.filterMap (fun i => ws[i]?)) ++ w1)[i]?) = ws2.map some)
    (hst : st0 = As.reverse ++ rest) (hW : (rest.map fun v => v.category).sum ≤ 8) (hdg : decode cc pc = .ok (.invokestatic index, 3))
    (kk : ∀ (H : Heap) (locs : List Loc), va_P g.1 classes ws2 H → va_D A ws2 → va_S A s.heap H locs → W p l e R s m args below meth c H locs (cells + mc) (slots + ms) Q (F0 m (pc + 3) ls (rv.toList ++ rest))) :
    W p l e R s m args below meth c H locs cells slots Q (F0 m pc ls st0) := by
  obtain ⟨hx, hb, hr, hml, hown, hts, hlocks, hA, hK, hG⟩ := M
  refine k_goM hK hP hD hS hA isC isR isX hC hR hnR hdis hnX hX (a := As.toArray) ?_ kk
  have hws : ∀ w ∈ Cond.codeWith y bytes maxL ret hh :: bw, ∀ (a' : Array Value) (U : State), s.WarmedH U.vm → w.before a' U = true := fun w hw a' U hW => by
    rcases List.mem_cons.mp hw with rfl | hw
    · exact word_at hW (bw_good h5) (hts _ h5)
    · exact word_at hW (bw_good hw) (hts _ hw)
  have hB : Back l R p e below s args y 3 8 (PreOf R mc ms (va_Pc As (PW g wc H.size))) (PostOf (QW g rv w1 (va_A wc H.size)) mc ms (va_A wc H.size)) :=
    va_backW (bytes := bytes) (maxL := maxL) (ret := ret) (hh := hh) (hM H.size) PW_blind hrc hrs hRm.1 hRm.2 hws List.mem_cons_self (fun a' U hW => word_at hW (Or.inl (by first | rfl | simp [Cond.onTables, Cond.keeps, Cond.steady])) (hts _ h4))
  intro T hT X
  obtain ⟨mk, methM, cM, hnamed, hmethM, -, -, -, -, -, -, hsigM⟩ := Cond.codeWith_spec (hts _ h5)
  have hstatic : methM.isStatic = true := Cond.static_spec hnamed hmethM (hts _ h2)
  obtain ⟨kP, hkP, -⟩ := className_of_methodNamed hnamed
  have hinitP : kP.init = .initialized := Cond.initialized_spec (findClass_of_methodNamed hnamed) hkP (hts _ h4)
  have hlen : As.length = methM.sig.parameters.length := by
    have h9 := hd.2.2
    rw [hsigM] at h9
    rw [hn]
    exact (Option.some.inj h9).symm
  obtain ⟨vm₁, X₁, hstep₁⟩ := X.invokestatic hx hown (hts _ h1) hnamed hmethM hstatic hkP hinitP ⟨hd.1, hd.2.1⟩ (g := F0 m pc ls st0) rfl (argsL := As) (rest := rest) hlen hst (by rw [hb]; exact hdg)
  obtain ⟨v, ⟨U', l2, c2, s2⟩, X', hpost, hsteps⟩ := hB m meth c ⟨T.setVm vm₁, locs, cells, slots⟩ (F0 m pc ls rest) (.invokestatic index) mk As.toArray X₁ rfl (hsz.trans hml.symm) (by rw [hb]; exact hdg) (lv_room hW) (X₁.named hnamed) ⟨hcs.1, hcs.2, ⟨rfl, k_pre hK hP hD hS hA hG isC hnC hC _ hT X₁.warmed⟩⟩
  obtain ⟨g', mk', t, L, e1, e2, hq, q1, hL, q2, q3⟩ := hpost
  dsimp only [Pt.U, Pt.locs, Pt.cells, Pt.slots] at X' e1 e2 q1 q2 q3 hsteps
  subst q1; subst q2; subst q3
  exact ⟨v, (T.setVm vm₁).calling g' mk' As.toArray, t, U', L, hT, X', hL, e1, e2, hq, fun target h => hstep₁ _ fun acts => by rw [doInvoke_state]; exact hsteps.trans h⟩
end KW

