-- ===== a method that throws =====
/-- the invocation, begun anew where it stands: nothing written, nothing made yet -/
theorem rebase {p : Program} {l : Launch} {e : Env} {R : Room} {s : State} {m : MethodId} {args : Array Value} {below : List Frame} {meth : Method} {c : Code} {T : State} {locs : List Loc} (X : Stand p l e R s m args below meth c T locs 0 0) :
    Stand p l e R (T.setFrames (.invoking m args :: below)) m args below meth c T [] 0 0 := by
  obtain ⟨g₀, hfr⟩ := X.frames_eq
  have hcur : T.cur < T.threads.size := State.cur_lt_of_frames hfr
  have hf : (T.setFrames (.invoking m args :: below)).frames = .invoking m args :: below := State.frames_setFrames _ hcur
  have hm : (T.setFrames (.invoking m args :: below)).vm.method? m = some meth := X.method'
  obtain ⟨t, ht, -⟩ := State.frames_cons hf
  have hcur' : (T.setFrames (.invoking m args :: below)).cur < (T.setFrames (.invoking m args :: below)).threads.size := State.cur_lt_of_frames hf
  have hT : (T.setFrames (.invoking m args :: below)).setFrames T.frames = T := by
    rw [State.setFrames_setFrames]
    obtain ⟨th, hth, -⟩ := State.frames_cons hfr
    exact State.setFrames_self hth
  refine ⟨X.admits, X.cas, X.clock, hf, ?_, ?_, hm, X.code, X.here, X.tail, State.WarmedH.refl (T.setFrames (.invoking m args :: below)), (State.stackLimits_setFrames _ _ _).symm, (State.stackBytes_setFrames _ _).symm, ?_⟩
  · have hr := X.room
    have hz := X.heapSize
    have hu := X.used
    have hb := X.book
    have hl1 := State.localsInUse_invoking X.frames X.method X.code
    have hl2 := State.localsInUse_invoking hf hm X.code
    have hst : (T.setFrames (.invoking m args :: below)).slotsTrue = true := hb
    have hme : (T.setFrames (.invoking m args :: below)).me.stackBytes = s.me.stackBytes := by rw [State.stackBytes_setFrames]; exact X.bytes
    have hlim : e.platform.stackLimits (T.setFrames (.invoking m args :: below)).me = e.platform.stackLimits s.me := by rw [State.stackLimits_setFrames]; exact X.limits
    have hfl : (T.setFrames (.invoking m args :: below)).frames.length = s.frames.length := by rw [hf, X.frames]
    have hh : (T.setFrames (.invoking m args :: below)).heap.size = T.heap.size := rfl
    have hsu : (T.setFrames (.invoking m args :: below)).slotsUsed = T.slotsUsed := rfl
    simp only [State.hasRoom, Bool.and_eq_true, decide_eq_true_eq] at hr ⊢
    rw [hl1] at hr
    rw [hl2, hfl, hlim, hme, hh, hsu, hst]
    obtain ⟨⟨⟨⟨r1, r2⟩, r3⟩, r4⟩, r5⟩ := hr
    exact ⟨⟨⟨⟨r1, r2⟩, by omega⟩, by omega⟩, rfl⟩
  · have hh := X.hears
    have ha := X.warmed.alike
    unfold State.hears at hh ⊢
    split
    · rename_i g r
      simp only at hh
      rw [State.code?_eq] at hh ⊢
      rw [show (T.setFrames (.invoking m args :: .java g :: r)).vm.method? g.method = s.vm.method? g.method from ha.method? _]
      exact hh
    · rfl
    · rfl
    · rename_i h1 h2 h3
      rw [hm]
      split at hh
      · exact absurd rfl (h1 _ _)
      · exact absurd rfl (h2 _ _)
      · exact absurd rfl (h3 _ _)
      · rw [X.method] at hh
        exact hh
  · have h := (State.sameButNew.refl (T.setFrames (.invoking m args :: below)) ht).setFrames T.frames hcur'
    rw [hT] at h
    exact h
abbrev xnames : List String := ["java/lang/RuntimeException", "java/lang/Exception"]
/-- the atoms of an exception's making, each out of the tables, the nest's words, or the two statics -/
def xok (ic : Nat) (cls : String) : Prop := ((Bundle.ownAtoms0 "MoveDesk" ic cls xnames).all fun a => (decide (a ∈ tables_1) && goodWord a) || decide (a ∈ exw) || decide (a = .isRef (.static "java/lang/Throwable" "UNASSIGNED_STACK" "[Ljava/lang/StackTraceElement;")) || decide (a = .isRef (.static "java/lang/Throwable" "SUPPRESSED_SENTINEL" "Ljava/util/List;")) || decide (a = .laysStatic "java/lang/Throwable" "UNASSIGNED_STACK" "[Ljava/lang/StackTraceElement;") || decide (a = .laysStatic "java/lang/Throwable" "SUPPRESSED_SENTINEL" "Ljava/util/List;")) = true
theorem x_IOOBE : xok 72 "java/lang/IndexOutOfBoundsException" := by unfold xok; decide +kernel
theorem x_IAE : xok 78 "java/lang/IllegalArgumentException" := by unfold xok; decide +kernel
theorem x_ISE : xok 106 "java/lang/IllegalStateException" := by unfold xok; decide +kernel
theorem x_UOE : xok 118 "java/lang/UnsupportedOperationException" := by unfold xok; decide +kernel
theorem x_atoms {args : Array Value} {s : State} {A : Nat → Prop} {ic : Nat} {cls : String} (h : xok ic cls) (hts : ∀ w ∈ bw, w.before args s = true) (hE : EX A s) : ∀ a ∈ Bundle.ownAtoms0 "MoveDesk" ic cls xnames, a.before args s = true := by
  intro a ha
  have h1 := List.all_eq_true.mp h a ha
  simp only [Bool.or_eq_true, Bool.and_eq_true, decide_eq_true_eq] at h1
  rcases h1 with ((((⟨h1, h2⟩ | h1) | rfl) | rfl) | rfl) | rfl
  · exact hts a (List.mem_filter.mpr ⟨List.mem_append_right _ h1, h2⟩)
  · have h3 := hE.1 a h1
    rcases exw_kinds a h1 with ⟨x, z, rfl⟩ | ⟨x, rfl⟩
    · exact va_Nw.use rfl h3
    · exact va_Nw.use rfl h3
  · exact hE.2.1.isRef
  · exact hE.2.2.1.isRef
  · exact hE.2.1.lays
  · exact hE.2.2.1.lays
def FT (st t : State) (L : List Loc) (mc ms : Nat) : Prop := st.WarmedH t.vm ∧ st.sameButNew ({ t with vm := st.vm } : State) L mc ms
def QT (g : GT) (cls : String) (w1 : va_W) (A : Nat → Prop) (st : State) (oc : Outcome) (t : State) : Prop := (∃ (a : Nat) (ce : Cell), oc = .threw a ∧ t.heap[a]? = some ce ∧ ce.vm = .none ∧ t.vm.findClass cls = some ce.cls ∧ va_P g.1 classes w1 t.heap ∧ va_K g.1 classes (gty g) t ∧ va_D A w1) ∧ va_F A st t
def MQT (below : List Frame) (Q2 : Outcome → State → Prop) (s : State) (mc ms : Nat) (free : Nat → Prop) : State → Prop := fun t => ∃ o, t.status = .running ∧ Ended t below o ∧ Q2 o t ∧ ∃ L, FT s t L mc ms ∧ ∀ q ∈ L, free q.base
def CtT (l : Launch) (y : MethodName) (cw : Cond) (rm : Room) (g : GT) (av : List Value) (ws w1 : va_W) (cls : String) : Prop := ∀ sz, MetFree l y (headSpec (cw :: bw) rm) (va_Pc av (PW g ws sz)) (fun _ _ _ _ _ => True) (fun _ st o t => QT g cls w1 (va_A ws sz) st o t ∧ ∃ L, FT st t L 1 6 ∧ ∀ q ∈ L, va_A ws sz q.base)
theorem ct_inT {l : Launch} {y : MethodName} {cc : ByteArray} {maxL : Nat} {rt : Option FieldType} {rm : Room} {g : GT} {av : List Value} {ws w1 : va_W} {cls : String} {C : String} (hC : y.cls = C) (hy : plainName y.cls = true) (hn : (lg_sl av).length ≤ maxL)
    (body : ∀ (p : Program) (e : Env) (s : State) (m : MethodId) (below : List Frame) (meth : Method) (c : Code) (A : Nat → Prop) (ls : Array Slot), MX p s m av.toArray meth c cc maxL rt C g A → c.exceptionTable.isEmpty = true → va_P g.1 classes ws s.heap → va_D A ws → va_S A s.heap s.heap [] → lv_has ls maxL (lv_args 0 av) →
      W p l e rm s m av.toArray below meth c s.heap [] 0 0 (MQT below (QT g cls w1 A s) s 1 6 A) (F0 m 0 ls [])) :
    CtT l y (.code y cc maxL rt) rm g av ws w1 cls := by
  intro sz
  refine MetFree.of_bodyS (code := cc) (maxLocals := maxL) (ret := rt) hy ?_ ?_
  · intro args s m h hn
    obtain ⟨meth, c, h1, h2, h3, h4, h5, h6, -, -⟩ := Cond.code_spec hn (atoms_spec (ws := Cond.code y cc maxL rt :: bw) h _ List.mem_cons_self)
    exact ⟨meth, c, h1, h2, h3, h4, h5, h6⟩
  · intro p e s m args below meth c s₁ B hml hv _
    obtain ⟨rfl, hsz, hP, hK, hD0, hG⟩ := hv
    have hts := atoms_spec (ws := Cond.code y cc maxL rt :: bw) B.pre
    have hown : s.vm.findClass C = some m.cls := by rw [← hC]; exact findClass_of_methodNamed B.named
    have hne : c.exceptionTable.isEmpty = true := BodyLoose.noHandlers B (hts _ List.mem_cons_self)
    subst hsz
    have hl := lv_entry av (n := maxL) hn
    have hh0 : s₁.heap = s.heap := by rw [B.state]; rfl
    have K := body p e s m below meth c _ _ ⟨B.exec, B.bytes, B.returns, hml, hown, fun w h => hts w (List.mem_cons_of_mem _ h), B.notSynchronized, fun q h => Or.inr h, hK, hG⟩ hne hP (hD0.self (sz := s.heap.size)) va_S.rf hl
    rw [lg_entry_eq]
    obtain ⟨t, a1, o, b1, b2, b3⟩ := K s₁ hh0 (Stand.of_body B)
    exact ⟨t, o, a1, b1, b2, b3⟩
section KT
variable {p : Program} {l : Launch} {e : Env} {R : Room} {s : State} {m : MethodId} {args : Array Value} {below : List Frame} {meth : Method} {c : Code} {H : Heap} {locs : List Loc}
variable {cc : ByteArray} {nL : Nat} {rt : Option FieldType} {g : GT} {A : Nat → Prop} {ws : va_W} {pc : Nat} {ls : Array Slot}
theorem k_throw0 (M : MX p s m args meth c cc nL rt "MoveDesk" g A) (hne : c.exceptionTable.isEmpty = true) (htr : ∀ e, l.admits e → e.platform.stackTraces = false) {cls : String} {i0 ic : Nat} (hx0 : xok ic cls) (hfit : Bundle.fit cls = true)
    (h1 : Cond.classLink "MoveDesk" i0 cls ∈ bw) (h2 : Cond.instantiable cls 6 ∈ bw) (h3 : Cond.initialized cls ∈ bw) (hsz : ls.size = nL) (hR : 5 < R.frames) (hRl : 82 ≤ R.locals) (hRc : 1 ≤ R.cells) (hRs : 6 ≤ R.slots)
    (d0 : decode cc pc = .ok (.new i0, 3)) (d1 : decode cc (pc + 3) = .ok (.dup, 1)) (d2 : decode cc (pc + 4) = .ok (.invokespecial ic, 3)) (d3 : decode cc (pc + 7) = .ok (.athrow, 1)) :
    W p l e R s m args below meth c s.heap [] 0 0 (fun U => U.status = .running ∧ Ended U below (.threw s.heap.size) ∧ s.WarmedH U.vm ∧ s.sameButNew ({ U with vm := s.vm } : State) [] 1 6 ∧ ∃ ce, U.heap[s.heap.size]? = some ce ∧ ce.vm = .none ∧ s.vm.findClass cls = some ce.cls) (F0 m pc ls []) := by
  obtain ⟨hx, hb, hr, hml, hown, hts, hlocks, hA, hK, hG⟩ := id M
  refine W.newc hx hb hown (hts _ h1) (hts _ h2) (hts _ h3) rfl d0 (by omega) (by omega) (fun cC kC hfc hkC hord hks => ?_)
  refine W.eq (g2 := F0 m (pc + 3) ls [.ref s.heap.size]) rfl ?_
  refine lv_dup hx hb d1 rfl ?_
  refine W.eq (g2 := F0 m (pc + 4) ls [.ref s.heap.size, .ref s.heap.size]) rfl ?_
  intro T hT X
  have hout : ∀ x ∈ c.exceptionTable.toList, covers x (pc + 4 + 3) = false := by
    intro x hx'
    have h0 : c.exceptionTable = #[] := Array.isEmpty_iff.mp hne
    rw [h0] at hx'
    cases hx'
  obtain ⟨U, u1, u2, u3, u4, u5, ce, u6, u7⟩ := X.ctorThrow0 hx (htr e X.admits) hown hfit (by decide) (x_atoms hx0 hts hG.2.2.2.2.1) (fun x hx' => by cases hx') (a := s.heap.size) hfc hkC (by rw [hT]; simp [freshCell]) (Nat.le_refl _) (g := F0 m (pc + 4) ls [.ref s.heap.size, .ref s.heap.size]) rfl (hsz.trans hml.symm) rfl rfl (rest := []) rfl (by rw [hb]; exact d2) (by rw [hb]; exact d3) hout hR (by show 2 * 0 + 1 + (13 * (2 + 1) + 41) ≤ R.locals; omega)
  exact ⟨U, u1, u2, u3, u4, u5, ce, u6, u7.vm, u7.cls⟩
theorem same_base {T U : State} {F : List Frame} {vm : Vm} {cells slots : Nat} (h : (T.setFrames F).sameButNew ({ U with vm := (T.setFrames F).vm } : State) [] cells slots) : (T.setVm vm).sameButNew ({ U with vm := vm } : State) [] cells slots := by
  have h1 : ((T.setFrames F).setVm vm).sameButNew ({ U with vm := vm } : State) [] cells slots := h.setVm vm
  obtain ⟨e1, q2, q3, q4, q5, q6⟩ := h1
  refine ⟨?_, q2, q3, q4, q5, q6⟩
  have e2 : ∀ G, ((T.setFrames F).setVm vm).setFrames G = (T.setVm vm).setFrames G := fun G => State.setFrames_setFrames (s := T.setVm vm) F G
  rw [e2] at e1
  exact e1
theorem k_throw (M : MX p s m args meth c cc nL rt "MoveDesk" g A) (hP : va_P g.1 classes ws H) (hD : va_D A ws) (hS : va_S A s.heap H locs) (hne : c.exceptionTable.isEmpty = true) (htr : ∀ e, l.admits e → e.platform.stackTraces = false) {cls : String} {i0 ic : Nat} (hx0 : xok ic cls) (hfit : Bundle.fit cls = true)
    (h1 : Cond.classLink "MoveDesk" i0 cls ∈ bw) (h2 : Cond.instantiable cls 6 ∈ bw) (h3 : Cond.initialized cls ∈ bw) (hsz : ls.size = nL) (hR : 5 < R.frames) (hRl : 82 ≤ R.locals) (hRc : 1 ≤ R.cells) (hRs : 6 ≤ R.slots)
    (d0 : decode cc pc = .ok (.new i0, 3)) (d1 : decode cc (pc + 3) = .ok (.dup, 1)) (d2 : decode cc (pc + 4) = .ok (.invokespecial ic, 3)) (d3 : decode cc (pc + 7) = .ok (.athrow, 1)) :
    W p l e R s m args below meth c H locs 0 0 (MQT below (QT g cls ws A s) s 1 6 A) (F0 m pc ls []) := by
  obtain ⟨hx, hb, hr, hml, hown, hts, hlocks, hA, hK, hG⟩ := id M
  intro T hT X
  have X' := rebase X
  have hW : s.WarmedH (T.setFrames (.invoking m args :: below)).vm := X.warmed
  have hH : (T.setFrames (.invoking m args :: below)).heap = H := hT
  have M' : MX p (T.setFrames (.invoking m args :: below)) m args meth c cc nL rt "MoveDesk" g A := ⟨hx, hb, hr, hml, by rw [hW.alike.findClass]; exact hown, fun w h => word_at hW (bw_good h) (hts w h), hlocks, fun q h => hA q (Nat.le_trans hS.1 (by rw [← hH]; exact h)), va_K.moved hW.alike hK, hG.to hS (fun _ h => h) hH hW⟩
  obtain ⟨U, u1, u2, u3, u4, u5, ce, u6, u7, u8⟩ := k_throw0 M' hne htr hx0 hfit h1 h2 h3 hsz hR hRl hRc hRs d0 d1 d2 d3 T rfl X'
  have hWU : s.WarmedH U.vm := State.WarmedH.trans (t := T.setFrames (.invoking m args :: below)) hW u4
  have hold : ∀ q, q < H.size → U.heap[q]? = H[q]? := fun q hq => by
    have h9 : (T.setFrames (.invoking m args :: below)).heap[q]? = some H[q] := by rw [hH]; exact Array.getElem?_eq_getElem hq
    have h8 : U.heap[q]? = some H[q] := u5.old_cell h9
    rw [h8]
    exact (Array.getElem?_eq_getElem hq).symm
  have hge : H.size ≤ U.heap.size := by
    have h9 : (T.setFrames (.invoking m args :: below)).heap.size ≤ U.heap.size := u5.2.1
    rw [hH] at h9
    exact h9
  refine ⟨U, u1, _, u2, u3, ⟨⟨_, ce, rfl, u6, u7, by rw [u4.alike.findClass]; exact u8, hP.kept (fun k q hk => hold q.1 (hP k q hk).lt), va_K.moved hWU.alike hK, hD⟩, ⟨Nat.le_trans hS.1 hge, fun q h1 h2 => by rw [hold q (Nat.lt_of_lt_of_le h1 hS.1)]; exact hS.2.1 q h1 h2⟩⟩, locs ++ [], ⟨hWU, ?_⟩, fun q hq => ?_⟩
  · exact X.same.trans (same_base u5)
  · rw [List.append_nil] at hq
    exact hS.2.2 q hq
end KT

