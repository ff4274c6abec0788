-- ===== a call that throws, caught by a handler of the caller's own =====
/-- what the search through the rows t finds, and the tables that it leaves -/
def Sx (e : Env) (S : State) (f : JFrame) (a : Nat) (t : List ExceptionTableEntry) (pc : Nat) (vm' : Vm) : Prop :=
  ∀ (Q : Handler → Pre) (E : CtlPost) (d : Bool) (acts : List Action), wp (findHandler.go f a t) Q E e d acts S ↔ Q (.found pc) d acts (S.setVm vm')
theorem sx_row {e : Env} {S : State} {f : JFrame} {a : Nat} {x : ExceptionTableEntry} {t : List ExceptionTableEntry} {ct : ClassId} {cell : Cell} (hx : covers x f.pc = true) (h0 : x.catchType ≠ 0)
    (hl : S.vm.ClassLinks e.platform f.method.cls x.catchType ct) (hcell : S.heap[a]? = some cell) (hobj : ∀ k, cell.vm ≠ .statics k) (hk : ∃ k, S.vm.classes[cell.cls]? = some k) (hc : ∃ k, S.vm.classes[ct]? = some k) :
    (S.vm.assignable cell.cls ct = true → Sx e S f a (x :: t) x.handlerPc (S.vm.noted f.method.cls x.catchType (.cls ct))) ∧
    (S.vm.assignable cell.cls ct = false → ∀ pc vm', Sx e (S.setVm (S.vm.noted f.method.cls x.catchType (.cls ct))) f a t pc vm' → Sx e S f a (x :: t) pc vm') := by
  have hal : S.vm.Alike (S.vm.noted f.method.cls x.catchType (.cls ct)) := (Vm.Alike.refl S.vm).noted _ _ _
  obtain ⟨r1, r2⟩ := (resolveClass_links e.toSetting hl).op (op := VmOp.resolveClass f.method.cls x.catchType) rfl
  obtain ⟨ka, ha⟩ := hk
  obtain ⟨kb, hb⟩ := hc
  obtain ⟨ka', ha', -⟩ := hal.2.2 _ _ ha
  obtain ⟨kb', hb', -⟩ := hal.2.2 _ _ hb
  have hasg : (S.vm.noted f.method.cls x.catchType (.cls ct)).assignable cell.cls ct = S.vm.assignable cell.cls ct := by rw [hal.assignable]
  simp only [covers] at hx
  refine ⟨fun h Q E d acts => ?_, fun h pc vm' hs Q E d acts => ?_⟩
  · rw [h] at hasg
    simp [findHandler.go, hx, h0, r1, r2, hcell, hobj, ha', hb', hasg, VmOp.dirties, VmOp.acts]
  · rw [h] at hasg
    have h1 := hs Q E d acts
    rw [State.setVm_twice] at h1
    rw [← h1]
    simp [findHandler.go, hx, h0, r1, r2, hcell, hobj, ha', hb', hasg, VmOp.dirties, VmOp.acts]
section SX
variable {p : Program} {l : Launch} {e : Env} {R : Room} {s : State} {m : MethodId} {args : Array Value} {below : List Frame} {meth : Method} {c : Code} {T : State} {locs : List Loc} {cells slots : Nat}
theorem sx_into (X : Stand p l e R s m args below meth c T locs cells slots) {g : JFrame} (hg : g.method = m) {a pc : Nat} {vm' : Vm} (hs : Sx e ((T.setTop g).pushFrame (.throwing a)) g a c.exceptionTable.toList pc vm') {target : State}
    (hrest : Steps p.tables e below ((T.setVm vm').setTop { g with pc := pc, stack := [.ref a] }) target) : Steps p.tables e below ((T.setTop g).pushFrame (.throwing a)) target := by
  subst hg
  obtain ⟨hgo, hw⟩ := X.here.throwing a
  refine Steps.head hgo hw ?_
  rw [stepThread_throwing (frames_entered X.here.top _)]
  have hm : ((T.setTop g).pushFrame (.throwing a)).vm.method? g.method = some meth := by rw [throwing_vm]; exact X.method'
  have hstep : (stepThrowing e ((T.setTop g).pushFrame (.throwing a)) a (.java g :: T.frames.tail)).Is ((((T.setTop g).pushFrame (.throwing a)).setVm vm').setFrames (.java { g with pc := pc, stack := [.ref a] } :: T.frames.tail)) [] := by
    simp only [stepThrowing, searchFrame, vmDo]
    generalize hr : Sem.go _ e false [] ((T.setTop g).pushFrame (.throwing a)) = res
    have hf : ∀ (Q : Handler → Pre) (E : CtlPost) (d : Bool) (acts : List Action), wp (findHandler g a) Q E e d acts ((T.setTop g).pushFrame (.throwing a)) ↔ Q (.found pc) d acts (((T.setTop g).pushFrame (.throwing a)).setVm vm') := fun Q E d acts => by
      rw [Jvm.W.findHandler_eq hm X.code]
      exact hs Q E d acts
    obtain ⟨as, rfl, ha⟩ := Sem.eq_ok_of hr (a := Handler.found pc) (s' := ((T.setTop g).pushFrame (.throwing a)).setVm vm') (acts' := []) (by simp [hf])
    exact ⟨rfl, ha⟩
  rw [hstep.1]
  obtain ⟨g₀, hfr⟩ := X.frames_eq
  have hfr' : (T.setVm vm').frames = .java g₀ :: below := hfr
  rw [State.setTop_of_frames _ hfr'] at hrest
  have e1 : (((T.setTop g).pushFrame (.throwing a)).setVm vm').setFrames (.java { g with pc := pc, stack := [.ref a] } :: T.frames.tail) = (T.setVm vm').setFrames (.java { g with pc := pc, stack := [.ref a] } :: below) := by
    rw [X.tail, State.pushFrame, State.setTop_of_frames _ hfr]
    have h1 : ∀ F, ((T.setFrames (.java g :: below)).setFrames F).setVm vm' = ((T.setVm vm').setFrames (.java g :: below)).setFrames F := fun _ => rfl
    rw [h1, State.setFrames_setFrames, State.setFrames_setFrames]
  rw [e1]
  exact hrest
/-- the first row catches -/
theorem sx_first (X : Stand p l e R s m args below meth c T locs cells slots) {g : JFrame} (hg : g.method = m) {own cls : String} (hown : s.vm.findClass own = some m.cls) {a : Nat} {ce : Cell} (hcell : T.heap[a]? = some ce) (hvm : ce.vm = .none) (hcls : s.vm.findClass cls = some ce.cls)
    {x : ExceptionTableEntry} {t : List ExceptionTableEntry} (htab : c.exceptionTable.toList = x :: t) (hx : covers x g.pc = true) (h0 : x.catchType ≠ 0) (hlink : (Cond.classLink own x.catchType cls).before args s = true) (hcast : va_Nw (.castable cls cls) s) :
    ∃ vm', s.WarmedH vm' ∧ Sx e ((T.setTop g).pushFrame (.throwing a)) g a c.exceptionTable.toList x.handlerPc vm' := by
  subst hg
  have hpl : e.platform.magicAccessors = ({} : Platform).magicAccessors := by rw [X.admits.platform]
  obtain ⟨ct, hct, hlk⟩ := Cond.classLink_spec hown hlink e.platform hpl
  cases hcls.symm.trans hct
  obtain ⟨c1, c2, q1, q2, q3⟩ := Cond.castable_spec hcast
  cases hcls.symm.trans q1
  cases hcls.symm.trans q2
  obtain ⟨dk, _, _, kt, hd, _, _, _, _, hkt, _, hopen⟩ := hlk.here
  have hW := X.warmed
  obtain ⟨kt', hkt', -⟩ := hW.alike.2.2 _ _ hkt
  rw [htab]
  refine ⟨_, hW.noted hd hopen (State.rightAt_cls hlk), ?_⟩
  have hv : ((T.setTop g).pushFrame (.throwing a)).vm = T.vm := throwing_vm T g a
  have hh : ((T.setTop g).pushFrame (.throwing a)).heap = T.heap := throwing_heap T g a
  have := (sx_row (e := e) (S := (T.setTop g).pushFrame (.throwing a)) (f := g) (a := a) (t := t) (ct := ce.cls) (cell := ce) hx h0 (by rw [hv]; exact hW.classLinks hlk) (by rw [hh]; exact hcell) (fun k h => by rw [hvm] at h; cases h) (by rw [hv]; exact ⟨kt', hkt'⟩) (by rw [hv]; exact ⟨kt', hkt'⟩)).1 (by rw [hv, hW.alike.assignable]; exact q3)
  rw [hv] at this
  exact this
/-- the first row lets it pass, the second catches -/
theorem sx_second (X : Stand p l e R s m args below meth c T locs cells slots) {g : JFrame} (hg : g.method = m) {own cls cls1 : String} (hown : s.vm.findClass own = some m.cls) {a : Nat} {ce : Cell} (hcell : T.heap[a]? = some ce) (hvm : ce.vm = .none) (hcls : s.vm.findClass cls = some ce.cls)
    {x1 x : ExceptionTableEntry} {t : List ExceptionTableEntry} (htab : c.exceptionTable.toList = x1 :: x :: t) (hx1 : covers x1 g.pc = true) (h01 : x1.catchType ≠ 0) (hlink1 : (Cond.classLink own x1.catchType cls1).before args s = true) (hno : va_Nc cls cls1 s)
    (hx : covers x g.pc = true) (h0 : x.catchType ≠ 0) (hlink : (Cond.classLink own x.catchType cls).before args s = true) (hcast : va_Nw (.castable cls cls) s) :
    ∃ vm', s.WarmedH vm' ∧ Sx e ((T.setTop g).pushFrame (.throwing a)) g a c.exceptionTable.toList x.handlerPc vm' := by
  subst hg
  have hpl : e.platform.magicAccessors = ({} : Platform).magicAccessors := by rw [X.admits.platform]
  obtain ⟨cp, hcp, hlp⟩ := Cond.classLink_spec hown hlink1 e.platform hpl
  obtain ⟨c1, c2, q1, q2, q3⟩ := hno
  cases hcls.symm.trans q1
  cases hcp.symm.trans q2
  obtain ⟨ct, hct, hlk⟩ := Cond.classLink_spec hown hlink e.platform hpl
  cases hcls.symm.trans hct
  obtain ⟨c3, c4, r1, r2, r3⟩ := Cond.castable_spec hcast
  cases hcls.symm.trans r1
  cases hcls.symm.trans r2
  have hW := X.warmed
  obtain ⟨dk1, _, _, kp, hd1, _, _, _, _, hkp, _, hopen1⟩ := hlp.here
  obtain ⟨dk, _, _, kt, hd, _, _, _, _, hkt, _, hopen⟩ := hlk.here
  obtain ⟨kp', hkp', -⟩ := hW.alike.2.2 _ _ hkp
  obtain ⟨kt', hkt', -⟩ := hW.alike.2.2 _ _ hkt
  have hW1 : s.WarmedH (T.vm.noted g.method.cls x1.catchType (.cls cp)) := hW.noted hd1 hopen1 (State.rightAt_cls hlp)
  obtain ⟨kt2, hkt2, -⟩ := hW1.alike.2.2 _ _ hkt
  rw [htab]
  refine ⟨_, State.WarmedH.noted hW1 hd hopen (State.rightAt_cls hlk), ?_⟩
  have hv : ((T.setTop g).pushFrame (.throwing a)).vm = T.vm := throwing_vm T g a
  have hh : ((T.setTop g).pushFrame (.throwing a)).heap = T.heap := throwing_heap T g a
  have hr1 := (sx_row (e := e) (S := (T.setTop g).pushFrame (.throwing a)) (f := g) (a := a) (t := x :: t) (ct := cp) (cell := ce) hx1 h01 (by rw [hv]; exact hW.classLinks hlp) (by rw [hh]; exact hcell) (fun k h => by rw [hvm] at h; cases h) (by rw [hv]; exact ⟨kt', hkt'⟩) (by rw [hv]; exact ⟨kp', hkp'⟩)).2 (by rw [hv, hW.alike.assignable]; exact q3)
  rw [hv] at hr1
  refine hr1 _ _ ?_
  exact (sx_row (e := e) (S := ((T.setTop g).pushFrame (.throwing a)).setVm (T.vm.noted g.method.cls x1.catchType (.cls cp))) (f := g) (a := a) (t := t) (ct := ce.cls) (cell := ce) hx h0 (hW1.classLinks hlk) hcell (fun k h => by rw [hvm] at h; cases h) ⟨kt2, hkt2⟩ ⟨kt2, hkt2⟩).1 (by show (T.vm.noted g.method.cls x1.catchType (.cls cp)).assignable _ _ = true; rw [hW1.alike.assignable]; exact r3)
end SX
section KVT
variable {p : Program} {l : Launch} {e : Env} {R : Room} {s : State} {m : MethodId} {args : Array Value} {below : List Frame} {meth : Method} {c : Code} {H : Heap} {locs : List Loc} {cells slots : Nat} {Q : State → Prop}
variable {cc : ByteArray} {nL : Nat} {rt : Option FieldType} {own : String} {g : GT} {A : Nat → Prop} {y : MethodName} {bytes : ByteArray} {maxL n index : Nat} {ret : Option FieldType} {rm : Room} {As rest st0 : List Value} {ws wc w1 ws2 : va_W} {pc : Nat} {ls : Array Slot}
/-- a virtual call that throws, and goes on at a handler of the caller's -/
theorem kVT {C cls : String} {b hpc : Nat} (M : MX p s m args meth c cc nL rt own g A) (hP : va_P g.1 classes ws H) (hD : va_D A ws) (hS : va_S A s.heap H locs) (hsz : ls.size = nL)
    (hM : CtT l y (.code y bytes maxL ret) rm g (.ref b :: As) wc w1 cls)
    (h1 : Cond.methodLink own index y ∈ bw) (h2 : Cond.instanceMethod y ∈ bw) (h3 : Cond.selects C y y ∈ bw) (h4 : Cond.initialized C ∈ bw) (h5 : Cond.code y bytes maxL ret ∈ bw)
    (hd : y.cls = C ∧ y.cls ≠ "java/lang/invoke/MethodHandle" ∧ y.cls ≠ "java/lang/invoke/VarHandle" ∧ (parseMethodDescriptor y.desc).map (fun d => d.parameters.length) = some n) (hn : As.length = n)
    (hrc : rm.cells = 1) (hrs : rm.slots = 6) (hRm : rm.frames + 1 ≤ R.frames ∧ 8 + (maxL + 11) + rm.locals ≤ R.locals) (hcs : cells + 1 ≤ R.cells ∧ slots + 6 ≤ R.slots)
    (ci q0 : Nat) {q : vw_C} {fs : List Value} (hc : classes[ci]? = some q) (hq : q.1 = C) (he : wc[q0]? = some (b, .inr (ci, fs)))
    (isC isR isX : List Nat) (hC : isC.map (fun i => ws[i]?) = wc.map some) (hR : isR.all (fun i => decide (i < ws.length)) = true) (hnC : va_nd isC = true) (hnR : va_nd isR = true) (hdis : ∀ i ∈ isR, i ∉ isC) (hnX : va_nd isX = true) (hX : isX.map (fun i => ((isR.filterMap (fun i => ws[i]?)) ++ w1)[i]?) = ws2.map some)
    (hst : st0 = As.reverse ++ .ref b :: rest) (hW : (rest.map fun v => v.category).sum ≤ 8) (hdg : decode cc pc = .ok (.invokevirtual index, 3))
    (hfind : ∀ (T : State) (locs1 : List Loc) (a : Nat) (ce : Cell), Stand p l e R s m args below meth c T locs1 (cells + 1) (slots + 6) → T.heap[a]? = some ce → ce.vm = .none → s.vm.findClass cls = some ce.cls → ∃ vm', s.WarmedH vm' ∧ Sx e ((T.setTop (F0 m pc ls rest)).pushFrame (.throwing a)) (F0 m pc ls rest) a c.exceptionTable.toList hpc vm')
    (kk : ∀ (a : Nat) (H : Heap) (locs : List Loc), va_P g.1 classes ws2 H → va_D A ws2 → va_S A s.heap H locs → W p l e R s m args below meth c H locs (cells + 1) (slots + 6) Q (F0 m hpc ls [.ref a])) :
    W p l e R s m args below meth c H locs cells slots Q (F0 m pc ls st0) := by
  obtain ⟨hx, hb, hr, hml, hown, hts, hlocks, hA, hK, hG⟩ := M
  have hF : ∀ q, va_A wc H.size q → A q := va_free (wc := wc) hD hS hA isC hC
  have hrec := va_recv hK (P_map hP isC hC) hc he
  rw [hq] at hrec
  obtain ⟨cellB, hcB, hoB, hclB⟩ := hrec
  have hy : y.cls ≠ "java/lang/invoke/MethodHandle" ∧ y.cls ≠ "java/lang/invoke/VarHandle" := ⟨hd.2.1, hd.2.2.1⟩
  intro T hT X
  obtain ⟨mk, methM, hnamed, hmethM, hstM, habM⟩ := Cond.instanceMethod_spec (hts _ h2)
  obtain ⟨methM', cM, hmethM', -, -, -, -, -, -, hsigM⟩ := Cond.code_spec hnamed (hts _ h5)
  cases hmethM.symm.trans hmethM'
  obtain ⟨c2, r2, m2, q1, q2, q3, q4, kP, hkP, hkPi⟩ := Cond.selects_spec (hts _ h3)
  cases hclB.symm.trans q1
  cases (State.methodFound?_of_named hnamed hy).symm.trans q2
  cases hnamed.symm.trans q3
  have hselP : selectMethod e.platform s.vm cellB.cls mk = .method mk := by rw [Launch.admits_selectMethod X.admits]; exact q4
  have hlen : As.length = methM.sig.parameters.length := by
    have h9 := hd.2.2.2
    rw [hsigM] at h9
    rw [hn]
    exact (Option.some.inj h9).symm
  obtain ⟨vm₁, X₁, hstep₁⟩ := X.invokevirtual hx hown (hts _ h1) hnamed hmethM hstM hkP hkPi hy (a := b) (cell := cellB) (by rw [hT]; exact hcB)
    (fun z h => by rw [h] at hoB; cases hoB) hselP hmethM habM hkP hkPi (g := F0 m pc ls st0) rfl (argsL := As) (rest := rest) hlen hst (by rw [hb]; exact hdg)
  have hU : (T.setVm vm₁).heap = H := hT
  have hWW : s.WarmedH (T.setVm vm₁).vm := X₁.warmed
  have hini : (Cond.initialized y.cls).before args s = true := by rw [hd.1]; exact hts _ h4
  have happ := X₁.appliesAt (S := headSpec (Cond.code y bytes maxL ret :: bw) rm) (y := y) (bytes := bytes) (maxL := maxL) (ret := ret) (g := F0 m pc ls rest) rfl (hsz.trans hml.symm) (W := 8) (by rw [hb]; exact hdg) (lv_room hW) (mk := mk) (a := (Value.ref b :: As).toArray) (X₁.named hnamed)
    (atoms_intro fun w hw => by
      rcases List.mem_cons.mp hw with rfl | hw
      · exact word_at hWW (bw_good h5) (hts _ h5)
      · exact word_at hWW (bw_good hw) (hts _ hw))
    (word_at hWW (bw_good h5) (hts _ h5)) (word_at hWW (Or.inl (by first | rfl | simp [Cond.onTables, Cond.keeps, Cond.steady])) hini) hRm.1 hRm.2
    (by rw [show (headSpec (Cond.code y bytes maxL ret :: bw) rm).room.cells = 1 from hrc]; exact hcs.1) (by rw [show (headSpec (Cond.code y bytes maxL ret :: bw) rm).room.slots = 6 from hrs]; exact hcs.2)
  have hfr : ((T.setVm vm₁).setTop (F0 m pc ls rest)).frames = [.java (F0 m pc ls rest)] ++ below := by rw [State.frames_setTop' _ X₁.here.top, X₁.tail]; rfl
  have hPc : va_Pc (Value.ref b :: As) (PW g wc H.size) (Value.ref b :: As).toArray ((T.setVm vm₁).calling (F0 m pc ls rest) mk (Value.ref b :: As).toArray) := PW_blind _ _ _ _ ⟨rfl, k_pre hK hP hD hS hA hG isC hnC hC _ hU hWW⟩
  obtain ⟨o, s₂, hsteps, -, hend, hQQ⟩ := Steps.callFree (hM H.size) p X.admits X.cas X.clock (acts := []) hfr happ hPc trivial
  obtain ⟨⟨⟨a, ce, ho, u1, u2, u3, u4, u5, u6⟩, u7, u8⟩, L, ⟨f1, f2⟩, hL⟩ := hQQ
  subst ho
  rw [hfr] at hend
  obtain ⟨T', X', -, -, hs₂⟩ := X₁.outOfThrown (g := F0 m pc ls rest) rfl (mk := mk) (a := (Value.ref b :: As).toArray) hend f1 f2
  have hh2 : s₂.heap = T'.heap := by rw [hs₂]; exact throwing_heap T' _ a
  have hv2 : s₂.vm = T'.vm := by rw [hs₂]; exact throwing_vm T' _ a
  rw [hh2] at u1 u4 u7 u8
  rw [hv2] at u3
  have hcal : (((T.setVm vm₁).setTop (F0 m pc ls rest)).pushFrame (Frame.invoking mk (Value.ref b :: As).toArray)).heap = H := hU
  rw [hcal] at u7 u8
  obtain ⟨hP2, hD2⟩ := va_join (wr := isR.filterMap (fun i => ws[i]?)) (w1 := w1) (H1 := T'.heap) hP hD isC isR hC (R_map isR hR) hnR hdis u8 hF u4 u6
  obtain ⟨vm', hW', hsx⟩ := hfind T' (locs ++ L) a ce X' u1 u2 (by rw [← X'.warmed.alike.findClass]; exact u3)
  obtain ⟨t2, a1, b1⟩ := kk a T'.heap (locs ++ L) (P_map hP2 isX hX) (hD2.sub isX hnX hX)
    ⟨Nat.le_trans hS.1 u7, fun q z1 z2 => by rw [u8 q (Nat.lt_of_lt_of_le z1 hS.1) (fun z => z2 (hF q z))]; exact hS.2.1 q z1 z2, fun q hq => by
      rcases List.mem_append.mp hq with h | h
      · exact hS.2.2 q h
      · exact hF _ (hL q h)⟩ (T'.setVm vm') rfl (X'.noted hW')
  refine ⟨t2, hstep₁ _ fun acts => ?_, b1⟩
  rw [doInvoke_state]
  refine hsteps.trans ?_
  rw [hs₂]
  exact sx_into X' rfl hsx a1
end KVT

