-- ===== constructors: cells are made =====
abbrev z32 : Nat → Int32 := fun _ => 0
abbrev z64 : Nat → Int64 := fun _ => 0
def QN (g : GT) (w1 : (Nat → Nat) → va_W) (A : Nat → Prop) : Array Value → State → Outcome → State → Prop := fun _ st oc t => (oc = .returned none ∧ ∃ q : Nat → Nat, va_P g.1 classes (w1 q) t.heap ∧ va_K g.1 classes (gty g) t ∧ va_D A (w1 q)) ∧ va_F A st t
def CtN (l : Launch) (y : MethodName) (cw : Cond) (rm : Room) (g : GT) (av : List Value) (ws : va_W) (w1 : (Nat → Nat) → va_W) (mc ms : Nat) : Prop := ∀ sz, Met l y (cw :: bw) rm (va_Pc av (PW g ws sz)) (QN g w1 (va_A ws sz)) mc ms (va_A ws sz)
theorem ct_inN {l : Launch} {y : MethodName} {cc : ByteArray} {maxL mc ms : Nat} {rt : Option FieldType} {rm : Room} {g : GT} {av : List Value} {ws : va_W} {w1 : (Nat → Nat) → va_W} {C : String} (hC : y.cls = C) (hy : plainName y.cls = true) (hyn : y.name = "<init>") (hn : (lg_sl av).length ≤ maxL)
    (body : ∀ (p : Program) (e : Env) (s : State) (m : MethodId) (below : List Frame) (meth : Method) (c : Code) (A : Nat → Prop) (ls : Array Slot), MX p s m av.toArray meth c cc maxL rt C g A → meth.name = "<init>" → va_P g.1 classes ws s.heap → va_D A ws → va_S A s.heap s.heap [] → lv_has ls maxL (lv_args 0 av) →
      W p l e rm s m av.toArray below meth c s.heap [] 0 0 (MQ below (QN g w1 A) av.toArray s mc ms A) (F0 m 0 ls [])) :
    CtN l y (.code y cc maxL rt) rm g av ws w1 mc ms := by
  intro sz
  refine Met.ofW (cc := cc) (maxL := maxL) (ret := rt) hy rfl ?_
  intro p e s m args below meth c s₁ B hml hv
  obtain ⟨rfl, hsz, hP, hK, hD0, hG⟩ := hv
  have hts := atoms_spec (ws := Cond.code y cc maxL rt :: bw) B.pre
  have hown : s.vm.findClass C = some m.cls := by rw [← hC]; exact findClass_of_methodNamed B.named
  have hin : meth.name = "<init>" := by rw [(name_of_methodNamed B.named B.method).1]; exact hyn
  subst hsz
  have hl := lv_entry av (n := maxL) hn
  rw [lg_entry_eq]
  exact body p e s m below meth c _ _ ⟨B.exec, B.bytes, B.returns, hml, hown, fun w h => hts w (List.mem_cons_of_mem _ h), B.notSynchronized, fun q h => Or.inr h, hK, hG⟩ hin hP (hD0.self (sz := s.heap.size)) va_S.rf hl
section KN
variable {p : Program} {l : Launch} {e : Env} {R : Room} {s : State} {m : MethodId} {args : Array Value} {below : List Frame} {meth : Method} {c : Code} {H : Heap} {locs : List Loc} {cells slots : Nat} {Q : State → Prop}
variable {cc : ByteArray} {nL : Nat} {rt : Option FieldType} {own : String} {g : GT} {A : Nat → Prop} {y : MethodName} {bytes : ByteArray} {maxL n index mc ms : Nat} {rm : Room} {As rest st0 : List Value} {ws wc : va_W} {w1 : (Nat → Nat) → va_W} {pc : Nat} {ls : Array Slot}
theorem k_newI (M : MX p s m args meth c cc nL rt own g A) (hP : va_P g.1 classes ws H) (hD : va_D A ws) (hS : va_S A s.heap H locs) (harr : Cond.arrayClass .int ∈ bw) {i : Int32} {N : Nat} (hn : ¬ i < 0) (hN : i.toNatClampNeg = N) (hbytes : N * componentBytes .int ≤ 536870912) (hcells : cells + 1 ≤ R.cells) (hslots : slots + N ≤ R.slots) (hdg : decode cc pc = .ok (.newarray .int, 2))
    (kk : ∀ (q : Nat) (H : Heap), va_P g.1 classes (ws ++ [kI g q N z32]) H → va_D A (ws ++ [kI g q N z32]) → va_S A s.heap H locs → W p l e R s m args below meth c H locs (cells + 1) (slots + N) Q (F0 m (pc + 2) ls (.ref q :: rest))) : W p l e R s m args below meth c H locs cells slots Q (F0 m pc ls (.int i :: rest)) := by
  obtain ⟨hx, hb, hr, hml, hown, hts, hlocks, hA, hK, hG⟩ := M
  refine va_newa (atype := .int) (ty := .int) hx hb (hts _ harr) rfl hK hP hD hS hA (a0 := (N, .inl z32)) (fun _ => rfl) hn hN hbytes hcells hslots hdg (fun q cA H1 hK1 hP1 hD1 hS1 => ?_)
  have e1 : s.vm.findClass ("[" ++ FieldType.int.toString) = some cA := (hK1.2 3 (cA, .int) rfl).2
  have e2 : s.vm.findClass ("[" ++ FieldType.int.toString) = some (gI g) := (hK.2 0 (gI g, .int) rfl).2
  cases e1.symm.trans e2
  exact kk q H1 hP1 hD1 hS1
theorem k_newZ (M : MX p s m args meth c cc nL rt own g A) (hP : va_P g.1 classes ws H) (hD : va_D A ws) (hS : va_S A s.heap H locs) (harr : Cond.arrayClass .boolean ∈ bw) {i : Int32} {N : Nat} (hn : ¬ i < 0) (hN : i.toNatClampNeg = N) (hbytes : N * componentBytes .boolean ≤ 536870912) (hcells : cells + 1 ≤ R.cells) (hslots : slots + N ≤ R.slots) (hdg : decode cc pc = .ok (.newarray .boolean, 2))
    (kk : ∀ (q : Nat) (H : Heap), va_P g.1 classes (ws ++ [kZ g q N z32]) H → va_D A (ws ++ [kZ g q N z32]) → va_S A s.heap H locs → W p l e R s m args below meth c H locs (cells + 1) (slots + N) Q (F0 m (pc + 2) ls (.ref q :: rest))) : W p l e R s m args below meth c H locs cells slots Q (F0 m pc ls (.int i :: rest)) := by
  obtain ⟨hx, hb, hr, hml, hown, hts, hlocks, hA, hK, hG⟩ := M
  refine va_newa (atype := .boolean) (ty := .boolean) hx hb (hts _ harr) rfl hK hP hD hS hA (a0 := (N, .inl z32)) (fun _ => rfl) hn hN hbytes hcells hslots hdg (fun q cA H1 hK1 hP1 hD1 hS1 => ?_)
  have e1 : s.vm.findClass ("[" ++ FieldType.boolean.toString) = some cA := (hK1.2 3 (cA, .boolean) rfl).2
  have e2 : s.vm.findClass ("[" ++ FieldType.boolean.toString) = some (gZ g) := (hK.2 1 (gZ g, .boolean) rfl).2
  cases e1.symm.trans e2
  exact kk q H1 hP1 hD1 hS1
theorem k_newJ (M : MX p s m args meth c cc nL rt own g A) (hP : va_P g.1 classes ws H) (hD : va_D A ws) (hS : va_S A s.heap H locs) (harr : Cond.arrayClass .long ∈ bw) {i : Int32} {N : Nat} (hn : ¬ i < 0) (hN : i.toNatClampNeg = N) (hbytes : N * componentBytes .long ≤ 536870912) (hcells : cells + 1 ≤ R.cells) (hslots : slots + N ≤ R.slots) (hdg : decode cc pc = .ok (.newarray .long, 2))
    (kk : ∀ (q : Nat) (H : Heap), va_P g.1 classes (ws ++ [kJ g q N z64]) H → va_D A (ws ++ [kJ g q N z64]) → va_S A s.heap H locs → W p l e R s m args below meth c H locs (cells + 1) (slots + N) Q (F0 m (pc + 2) ls (.ref q :: rest))) : W p l e R s m args below meth c H locs cells slots Q (F0 m pc ls (.int i :: rest)) := by
  obtain ⟨hx, hb, hr, hml, hown, hts, hlocks, hA, hK, hG⟩ := M
  refine va_newa (atype := .long) (ty := .long) hx hb (hts _ harr) rfl hK hP hD hS hA (a0 := (N, .inr (.inl z64))) (fun _ => rfl) hn hN hbytes hcells hslots hdg (fun q cA H1 hK1 hP1 hD1 hS1 => ?_)
  have e1 : s.vm.findClass ("[" ++ FieldType.long.toString) = some cA := (hK1.2 3 (cA, .long) rfl).2
  have e2 : s.vm.findClass ("[" ++ FieldType.long.toString) = some (gJ g) := (hK.2 2 (gJ g, .long) rfl).2
  cases e1.symm.trans e2
  exact kk q H1 hP1 hD1 hS1
theorem k_goN {a : Array Value} (hK : va_K g.1 classes (gty g) s) (hP : va_P g.1 classes ws H) (hD : va_D A ws) (hS : va_S A s.heap H locs) (hA : ∀ q, s.heap.size ≤ q → A q)
    (isC isR : List Nat) (hC : isC.map (fun i => ws[i]?) = wc.map some) (hR : isR.all (fun i => decide (i < ws.length)) = true) (hnR : va_nd isR = true) (hdis : ∀ i ∈ isR, i ∉ isC)
    (hr : va_Run p l e R s m args below meth c H locs cells slots mc ms (F0 m pc ls st0) rest (QN g w1 (va_A wc H.size) a) (va_A wc H.size))
    (kk : ∀ (q : Nat → Nat) (H1 : Heap) (locs1 : List Loc), va_P g.1 classes ((isR.filterMap (fun i => ws[i]?)) ++ w1 q) H1 → va_D A ((isR.filterMap (fun i => ws[i]?)) ++ w1 q) → va_S A s.heap H1 locs1 → W p l e R s m args below meth c H1 locs1 (cells + mc) (slots + ms) Q (F0 m (pc + 3) ls rest)) :
    W p l e R s m args below meth c H locs cells slots Q (F0 m pc ls st0) := by
  have hF : ∀ q, va_A wc H.size q → A q := va_free (wc := wc) hD hS hA isC hC
  intro T hT X
  obtain ⟨v, st₀, t, T', L, h0, X', hL, e1, e2, ⟨⟨hv, q, hP1, hK1, hD1⟩, hz, hk⟩, st⟩ := hr T hT X
  cases hv
  rw [h0] at hz hk
  obtain ⟨hP2, hD2⟩ := va_join (wr := isR.filterMap (fun i => ws[i]?)) (w1 := w1 q) (H1 := t.heap) hP hD isC isR hC (R_map isR hR) hnR hdis (fun q h1 h2 => hk q h1 h2) hF hP1 hD1
  obtain ⟨t2, a1, b1⟩ := kk q T'.heap (locs ++ L) (by rw [e1]; exact hP2) hD2
    ⟨Nat.le_trans hS.1 (by rw [e1]; exact hz), fun q h1 h2 => by rw [e1, hk q (Nat.lt_of_lt_of_le h1 hS.1) (fun z => h2 (hF q z))]; exact hS.2.1 q h1 h2, fun q hq => by
      rcases List.mem_append.mp hq with h | h
      · exact hS.2.2 q h
      · exact hF _ (hL q h)⟩ T' rfl X'
  exact ⟨t2, st t2 a1, b1⟩
/-- a constructor's call -/
theorem kI_ {b : Nat} (M : MX p s m args meth c cc nL rt own g A) (hP : va_P g.1 classes ws H) (hD : va_D A ws) (hS : va_S A s.heap H locs) (hsz : ls.size = nL)
    (hM : CtN l y (.code y bytes maxL none) rm g (.ref b :: As) wc w1 mc ms)
    (h1 : Cond.methodLink own index y ∈ bw) (h2 : Cond.instanceMethod y ∈ bw) (h4 : Cond.initialized y.cls ∈ bw) (h5 : Cond.code y bytes maxL none ∈ bw) (hy1 : y.name = "<init>")
    (hd : y.cls ≠ "java/lang/invoke/MethodHandle" ∧ y.cls ≠ "java/lang/invoke/VarHandle" ∧ (parseMethodDescriptor y.desc).map (fun d => d.parameters.length) = some n) (hn : As.length = n)
    (hrc : rm.cells = mc) (hrs : rm.slots = ms) (hRm : rm.frames + 1 ≤ R.frames ∧ 8 + (maxL + 11) + rm.locals ≤ R.locals) (hcs : cells + mc ≤ R.cells ∧ slots + ms ≤ R.slots)
    (isC isR : List Nat) (hC : isC.map (fun i => ws[i]?) = wc.map some) (hR : isR.all (fun i => decide (i < ws.length)) = true) (hnC : va_nd isC = true) (hnR : va_nd isR = true) (hdis : ∀ i ∈ isR, i ∉ isC)
    (hst : st0 = As.reverse ++ .ref b :: rest) (hW : (rest.map fun v => v.category).sum ≤ 8) (hdg : decode cc pc = .ok (.invokespecial index, 3))
    (kk : ∀ (q : Nat → Nat) (H : Heap) (locs : List Loc), va_P g.1 classes ((isR.filterMap (fun i => ws[i]?)) ++ w1 q) H → va_D A ((isR.filterMap (fun i => ws[i]?)) ++ w1 q) → va_S A s.heap H locs → W p l e R s m args below meth c H locs (cells + mc) (slots + ms) Q (F0 m (pc + 3) ls rest)) :
    W p l e R s m args below meth c H locs cells slots Q (F0 m pc ls st0) := by
  obtain ⟨hx, hb, hr, hml, hown, hts, hlocks, hA, hK, hG⟩ := M
  exact k_goN hK hP hD hS hA isC isR hC hR hnR hdis (va_runI (As := As) (rest := rest) ⟨hx, hb, hml, hown, hts⟩ (hM H.size) (cwI n hts (gi_all h5) rfl hrc hrs (hts _ h4) (hts _ h1) (hts _ h2) hy1 hd hRm) ⟨PW_blind, fun U hU hW => ⟨rfl, k_pre hK hP hD hS hA hG isC hnC hC U hU hW⟩⟩ rfl hn hsz hst (lv_room hW) hdg hcs) kk
/-- a nest mate's private constructor -/
theorem kIN {b : Nat} {host : String} (M : MX p s m args meth c cc nL rt own g A) (hP : va_P g.1 classes ws H) (hD : va_D A ws) (hS : va_S A s.heap H locs) (hsz : ls.size = nL)
    (hM : CtN l y (.code y bytes maxL none) rm g (.ref b :: As) wc w1 mc ms)
    (h1 : Cond.methodLinkNest own index y host ∈ nestw) (h2 : Cond.instanceMethod y ∈ bw) (h4 : Cond.initialized y.cls ∈ bw) (h5 : Cond.code y bytes maxL none ∈ bw) (hy1 : y.name = "<init>")
    (hd : y.cls ≠ "java/lang/invoke/MethodHandle" ∧ y.cls ≠ "java/lang/invoke/VarHandle" ∧ (parseMethodDescriptor y.desc).map (fun d => d.parameters.length) = some n) (hn : As.length = n)
    (hrc : rm.cells = mc) (hrs : rm.slots = ms) (hRm : rm.frames + 1 ≤ R.frames ∧ 8 + (maxL + 11) + rm.locals ≤ R.locals) (hcs : cells + mc ≤ R.cells ∧ slots + ms ≤ R.slots)
    (isC isR : List Nat) (hC : isC.map (fun i => ws[i]?) = wc.map some) (hR : isR.all (fun i => decide (i < ws.length)) = true) (hnC : va_nd isC = true) (hnR : va_nd isR = true) (hdis : ∀ i ∈ isR, i ∉ isC)
    (hst : st0 = As.reverse ++ .ref b :: rest) (hW : (rest.map fun v => v.category).sum ≤ 8) (hdg : decode cc pc = .ok (.invokespecial index, 3))
    (kk : ∀ (q : Nat → Nat) (H : Heap) (locs : List Loc), va_P g.1 classes ((isR.filterMap (fun i => ws[i]?)) ++ w1 q) H → va_D A ((isR.filterMap (fun i => ws[i]?)) ++ w1 q) → va_S A s.heap H locs → W p l e R s m args below meth c H locs (cells + mc) (slots + ms) Q (F0 m (pc + 3) ls rest)) :
    W p l e R s m args below meth c H locs cells slots Q (F0 m pc ls st0) := by
  obtain ⟨hx, hb, hr, hml, hown, hts, hlocks, hA, hK, hG⟩ := M
  exact k_goN hK hP hD hS hA isC isR hC hR hnR hdis (va_runIN (As := As) (rest := rest) ⟨hx, hb, hml, hown, hts⟩ (hM H.size) ⟨va_cnB n hts (gi_all h5) rfl hrc hrs (hG.1 _ h1) (hts _ h4) hd hRm, hy1, hts _ h2⟩ ⟨PW_blind, fun U hU hW => ⟨rfl, k_pre hK hP hD hS hA hG isC hnC hC U hU hW⟩⟩ rfl hn hsz hst (lv_room hW) hdg hcs) kk
end KN

