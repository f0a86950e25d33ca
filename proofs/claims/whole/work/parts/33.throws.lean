/-! THROWS. A method that throws for sure; what is there when it has thrown; calls of it; where it is caught -/
theorem sbn_keep {s t : State} {k n : Nat} (h : s.sameButNew t [] k n) : ∀ q : Nat, q < s.heap.size → t.heap[q]? = s.heap[q]? := by
  intro q hq
  obtain ⟨c', h1, h2, h3, h4⟩ := h.2.2.2.2.2 q _ (Array.getElem?_eq_getElem hq)
  rw [Array.getElem?_eq_getElem hq, h1, h2]
  have : c'.slots = (s.heap[q]).slots := by
    apply Array.ext h3
    intro i h5 h6
    have := h4 i (by simp)
    rw [Array.getElem?_eq_getElem h5, Array.getElem?_eq_getElem h6] at this
    exact Option.some.inj this
  rw [this]
/-- how it stands behind a throw -/
def zXE (E0 : String) (st : State) (x : Addr) (t : State) (mc ms : Nat) : Prop := st.WarmedH t.vm ∧ st.sameButNew ({ t with vm := st.vm } : State) [] mc ms ∧ ∃ ce : Cell, t.heap[x]? = some ce ∧ ce.vm = .none ∧ st.vm.findClass E0 = some ce.cls
def XMet (l : Launch) (y : MethodName) (ws : List Cond) (rm : Room) (Pc : Array Value → State → Prop) (E0 : String) (mc ms : Nat) : Prop :=
  MetFree l y (headSpec ws rm) Pc (fun _ _ _ _ _ => True) (fun _ st o t => ∃ x : Addr, o = .threw x ∧ zXE E0 st x t mc ms)
def zXQ (below : List Frame) (E0 : String) (s : State) (mc ms : Nat) : State → Prop := fun t => ∃ x : Addr, t.status = .running ∧ Ended t below (.threw x) ∧ zXE E0 s x t mc ms
theorem XMet.ofW {l : Launch} {y : MethodName} {ws ws' : List Cond} {rm : Room} {Pc : Array Value → State → Prop} {E0 : String} {mc ms : Nat} {cc : ByteArray} {maxL : Nat} {ret : Option FieldType} (hy : plainName y.cls = true) (hw : ws = Cond.code y cc maxL ret :: ws')
    (body : ∀ p e s m args below meth c s₁, BodyLoose p l y (headSpec ws rm) cc maxL ret e s m args below meth c s₁ → c.maxLocals = maxL → (∀ x ∈ c.exceptionTable.toList, False) → Pc args s →
      W p l e (headSpec ws rm).room s m args below meth c s.heap [] 0 0 (zXQ below E0 s mc ms) (entryFrame m args maxL)) : XMet l y ws rm Pc E0 mc ms := by
  refine MetFree.of_bodyS (code := cc) (maxLocals := maxL) (ret := ret) hy ?_ ?_
  · intro args s m h hn
    obtain ⟨meth, c, h1, h2, h3, h4, h5, h6, -, -⟩ := Cond.code_spec hn (atoms_spec (ws := ws) h _ (by rw [hw]; exact List.mem_cons_self))
    exact ⟨meth, c, h1, h2, h3, h4, h5, h6⟩
  · intro p e s m args below meth c s₁ B hml hP _
    have hh0 : s₁.heap = s.heap := by rw [B.state]; rfl
    have hno : c.exceptionTable.isEmpty = true := B.noHandlers (atoms_spec (ws := ws) B.pre _ (by rw [hw]; exact List.mem_cons_self))
    obtain ⟨t, a1, x, b1, b2, b3⟩ := body p e s m args below meth c s₁ B hml (fun x hx => by simp [Array.isEmpty_iff.mp hno] at hx) hP s₁ hh0 (Stand.of_body B)
    exact ⟨t, .threw x, a1, b1, b2, x, rfl, b3⟩
section ZX
variable {p : Program} {l : Launch} {e : Env} {R : Room} {s : State} {m : MethodId} {args : Array Value} {below : List Frame} {meth : Method} {c : Code} {H : Heap} {locs : List Loc} {cells slots : Nat} {Q : State → Prop}
/-- the walk stands with a throw over its frame -/
def XW (p : Program) (l : Launch) (e : Env) (R : Room) (s : State) (m : MethodId) (args : Array Value) (below : List Frame) (meth : Method) (c : Code) (H : Heap) (locs : List Loc) (cells slots : Nat) (Q : State → Prop) (g : JFrame) (x : Addr) : Prop :=
  ∀ T : State, T.heap = H → Stand p l e R s m args below meth c T locs cells slots → ∃ t, Steps p.tables e below ((T.setTop g).pushFrame (.throwing x)) t ∧ Q t
/-- out of a method without handlers -/
theorem zx_out {E0 : String} {mc ms : Nat} {g : JFrame} {x : Addr} {ce : Cell} (hno : ∀ y ∈ c.exceptionTable.toList, False) (hlocks : meth.locks = false) (hg : g.method = m) (hl1 : g.locked = none) (hl2 : g.entered = []) (hf : ∀ q ∈ locs, s.heap.size ≤ q.base) (h1 : H[x]? = some ce) (h2 : ce.vm = .none) (h3 : s.vm.findClass E0 = some ce.cls) :
    XW p l e R s m args below meth c H locs mc ms (zXQ below E0 s mc ms) g x := by
  intro T hT X
  have X0 : Stand p l e R s m args below meth c T [] mc ms := Stand.forget (locs := []) X hf
  obtain ⟨a1, a2, a3, a4, a5⟩ := X0.leaveThrown x hg hl1 hl2 (fun y hy => (hno y hy).elim) hlocks
  exact ⟨_, a1, x, a2, a3, a4, a5, ce, by show T.heap[x]? = _; rw [hT]; exact h1, h2, h3⟩
theorem XW.widen {g : JFrame} {x : Addr} {k n : Nat} (hk : cells ≤ k) (hn : slots ≤ n) (h : XW p l e R s m args below meth c H locs k n Q g x) : XW p l e R s m args below meth c H locs cells slots Q g x := by
  intro T hT X
  exact h T hT { X with same := X.same.weaken (fun y hy _ => hy) hk hn }
/-- the callee throws: from the entry to the throw over the caller's frame -/
theorem zx_go {y : MethodName} {ws : List Cond} {rm : Room} {Pc : Array Value → State → Prop} {E0 : String} {mc ms : Nat} {bytes : ByteArray} {maxL : Nat} {ret : Option FieldType} (hM : XMet l y ws rm Pc E0 mc ms) (hbl : FrameBlind Pc) (hrc : rm.cells = mc) (hrs : rm.slots = ms) (hfr : rm.frames + 1 ≤ R.frames) (hlo : 8 + (maxL + 11) + rm.locals ≤ R.locals)
    (hws : ∀ w ∈ ws, ∀ (a' : Array Value) (U : State), s.WarmedH U.vm → w.before a' U = true) (hcw : Cond.code y bytes maxL ret ∈ ws) (hini : (Cond.initialized y.cls).before args s = true)
    {T : State} (X : Stand p l e R s m args below meth c T locs cells slots) {g : JFrame} {ig : Instr} {len : Nat} (hg : g.method = m) (hsize : g.locals.size = c.maxLocals) (hdg : decode c.code g.pc = .ok (ig, len)) (hW : 2 * g.monitorRoom + (g.stack.map fun v => v.category).sum ≤ 8) {mk : MethodId} (hn : T.methodNamed? y = some mk) {a : Array Value} (hP : Pc a T) (hc : cells + mc ≤ R.cells) (hs : slots + ms ≤ R.slots) :
    ∃ (x : Addr) (ce : Cell) (T' : State), Stand p l e R s m args below meth c T' locs (cells + mc) (slots + ms) ∧ T.heap.size ≤ T'.heap.size ∧ (∀ q : Nat, q < T.heap.size → T'.heap[q]? = T.heap[q]?) ∧ T'.heap[x]? = some ce ∧ ce.vm = .none ∧ s.vm.findClass E0 = some ce.cls ∧
      Steps p.tables e below (doInvoke e (T.setTop g) [] mk a).1 ((T'.setTop g).pushFrame (.throwing x)) := by
  have h2 : (Cond.code y bytes maxL ret).before a T = true := hws _ hcw _ _ X.warmed
  obtain ⟨methY, cY, hmY, hcY, -, hlY, -, -, -, -⟩ := Cond.code_spec hn h2
  obtain ⟨kY, hkY, -⟩ := className_of_methodNamed hn
  have hini' : (Cond.initialized y.cls).before a T = true := word_at X.warmed (Or.inl (by first | rfl | simp [Cond.onTables, Cond.keeps, Cond.steady])) hini
  have hinitY : kY.init = .initialized := Cond.initialized_spec (findClass_of_methodNamed hn) hkY hini'
  have h : At T g.method c below := by rw [hg]; exact X.here
  have happ : (headSpec ws rm).appliesLoose y e.platform (T.calling g mk a) = true :=
    Spec.appliesLoose_calling (g := g) h hdg hn hkY hinitY
      (X.room_calling (g := g) (R' := (headSpec ws rm).room) hsize hmY hcY hfr (by rw [hlY]; show _ + rm.locals ≤ _; omega) (by show cells + rm.cells ≤ _; omega) (by show slots + rm.slots ≤ _; omega)) (atoms_intro fun w hw => hws w hw _ _ X.warmed)
  obtain ⟨mid, hmid⟩ := h.above
  have hfr2 : (T.setTop g).frames = (.java g :: mid) ++ below := by rw [State.frames_setTop' g h.top, hmid]; rfl
  obtain ⟨o, s₂, hsteps, -, hend, x, rfl, hWx, hsame, ce, e1, e2, e3⟩ := Steps.callFree hM p X.admits X.cas X.clock (acts := []) hfr2 happ (hbl _ _ _ _ hP) trivial
  rw [State.frames_setTop' g h.top] at hend
  obtain ⟨g₀, hfe⟩ := X.frames_eq
  rw [hfe] at hend
  obtain ⟨T', X', hWT, hsT, ht⟩ := X.outOfThrown hg (mk := mk) (a := a) (t := s₂) (x := x) (L := []) (k := mc) (n := ms) hend hWx hsame
  have hh : s₂.heap = T'.heap := by rw [ht, Stand.throwing_heap]
  have hk9 := sbn_keep hsT
  refine ⟨x, ce, T', by simpa using X', hsT.2.1, hk9, by rw [← hh]; exact e1, e2, ?_, by rw [← ht]; exact hsteps⟩
  have hf9 : T.vm.findClass E0 = some ce.cls := e3
  rw [X.warmed.alike.findClass] at hf9
  exact hf9
end ZX
section ZX2
variable {p : Program} {l : Launch} {e : Env} {R : Room} {s : State} {m : MethodId} {args : Array Value} {below : List Frame} {meth : Method} {c : Code} {H : Heap} {locs : List Loc} {cells slots : Nat} {Q : State → Prop}
  {Ts ws ws' : List Cond} {cc bytes : ByteArray} {nL maxL index n mc ms : Nat} {own C E0 : String} {y : MethodName} {ret : Option FieldType} {rm : Room} {Pc : Array Value → State → Prop}
  {b : Addr} {As rest : List Value} {g : JFrame}
/-- a call that throws for sure -/
theorem zx_runV (S : CallFix p m c cc nL s args Ts own) (hM : XMet l y ws rm Pc E0 mc ms) (cw : CallW R s args own C index y bytes maxL ret ws rm mc ms n) (hp : PreV s H C b Pc As)
    (hg : g.method = m) (hn : As.length = n) (hsize : g.locals.size = nL) (hstack : g.stack = As.reverse ++ .ref b :: rest) (hW : 2 * g.monitorRoom + (rest.map fun v => v.category).sum ≤ 8) (hdg : decode cc g.pc = .ok (.invokevirtual index, 3)) (hf : cells + mc ≤ R.cells ∧ slots + ms ≤ R.slots)
    (kx : ∀ (x : Addr) (ce : Cell) (H1 : Heap), H.size ≤ H1.size → (∀ q : Nat, q < H.size → H1[q]? = H[q]?) → H1[x]? = some ce → ce.vm = .none → s.vm.findClass E0 = some ce.cls → XW p l e R s m args below meth c H1 locs (cells + mc) (slots + ms) Q { g with stack := rest } x) :
    W p l e R s m args below meth c H locs cells slots Q g := by
  obtain ⟨⟨hrc, hrs, hfr, hlo, hws, hcw, hcode, hini, hy, hlen, hl⟩, hin, hse⟩ := cw
  obtain ⟨hx, hb, hml, ho, -⟩ := S
  obtain ⟨hbl, ⟨cellB, hcB, hoB, hclB⟩, hPc⟩ := hp
  intro T hT X
  subst hT
  obtain ⟨mk, methM, hnamed, hmethM, hstM, habM⟩ := Cond.instanceMethod_spec hin
  obtain ⟨methM', cM, hmethM', -, -, -, -, -, -, hsigM⟩ := Cond.code_spec hnamed hcode
  cases hmethM.symm.trans hmethM'
  obtain ⟨c2, r2, m2, q1, q2, q3, q4, kP, hkP, hkPi⟩ := Cond.selects_spec hse
  cases hclB.symm.trans q1
  cases (State.methodFound?_of_named hnamed hy).symm.trans q2
  cases hnamed.symm.trans q3
  have hselP : selectMethod e.platform s.vm cellB.cls mk = .method mk := by rw [Launch.admits_selectMethod X.admits]; exact q4
  obtain ⟨vm₁, X₁, hstep₁⟩ := X.invokevirtual hx ho hl hnamed hmethM hstM hkP hkPi hy (a := b) (cell := cellB) hcB (fun z h => by rw [h] at hoB; cases hoB) hselP hmethM habM hkP hkPi (g := g) hg (argsL := As) (rest := rest) (hn.trans (hlen _ hsigM)) hstack (by rw [hb]; exact hdg)
  obtain ⟨x, ce, T', X', z1, z2, z3, z4, z5, st⟩ := zx_go hM hbl hrc hrs hfr hlo hws hcw hini X₁ (g := { g with stack := rest }) hg (hsize.trans hml.symm) (show decode c.code g.pc = _ by rw [hb]; exact hdg) hW (X₁.named hnamed) (a := (Value.ref b :: As).toArray) (hPc _ rfl X₁.warmed) hf.1 hf.2
  obtain ⟨t, a1, a2⟩ := kx x ce T'.heap z1 z2 z3 z4 z5 T' rfl X'
  exact ⟨t, hstep₁ _ fun acts => by rw [doInvoke_state]; exact st.trans a1, a2⟩
theorem zx_runS (S : CallFix p m c cc nL s args Ts own) (hM : XMet l y ws rm Pc E0 mc ms) (cw : CallB R s args own index y bytes maxL ret ws rm mc ms n ∧ (Cond.static y).before args s = true) (hp : PreS s H Pc As)
    (hg : g.method = m) (hn : As.length = n) (hsize : g.locals.size = nL) (hstack : g.stack = As.reverse ++ rest) (hW : 2 * g.monitorRoom + (rest.map fun v => v.category).sum ≤ 8) (hdg : decode cc g.pc = .ok (.invokestatic index, 3)) (hf : cells + mc ≤ R.cells ∧ slots + ms ≤ R.slots)
    (kx : ∀ (x : Addr) (ce : Cell) (H1 : Heap), H.size ≤ H1.size → (∀ q : Nat, q < H.size → H1[q]? = H[q]?) → H1[x]? = some ce → ce.vm = .none → s.vm.findClass E0 = some ce.cls → XW p l e R s m args below meth c H1 locs (cells + mc) (slots + ms) Q { g with stack := rest } x) :
    W p l e R s m args below meth c H locs cells slots Q g := by
  obtain ⟨⟨hrc, hrs, hfr, hlo, hws, hcw, hcode, hini, hy, hlen, hl⟩, hstt⟩ := cw
  obtain ⟨hx, hb, hml, ho, -⟩ := S
  intro T hT X
  subst hT
  obtain ⟨mk, hnamed⟩ := Cond.code_named hcode
  obtain ⟨methM, cM, hmethM, -, -, -, -, -, -, hsigM⟩ := Cond.code_spec hnamed hcode
  have hstatic : methM.isStatic = true := Cond.static_spec hnamed hmethM hstt
  obtain ⟨kP, hkP, -⟩ := className_of_methodNamed hnamed
  have hinitP : kP.init = .initialized := Cond.initialized_spec (findClass_of_methodNamed hnamed) hkP hini
  obtain ⟨vm₁, X₁, hstep₁⟩ := X.invokestatic hx ho hl hnamed hmethM hstatic hkP hinitP hy (g := g) hg (argsL := As) (rest := rest) (hn.trans (hlen _ hsigM)) hstack (by rw [hb]; exact hdg)
  obtain ⟨x, ce, T', X', z1, z2, z3, z4, z5, st⟩ := zx_go hM hp.1 hrc hrs hfr hlo hws hcw hini X₁ (g := { g with stack := rest }) hg (hsize.trans hml.symm) (show decode c.code g.pc = _ by rw [hb]; exact hdg) hW (X₁.named hnamed) (a := As.toArray) (hp.2 _ rfl X₁.warmed) hf.1 hf.2
  obtain ⟨t, a1, a2⟩ := kx x ce T'.heap z1 z2 z3 z4 z5 T' rfl X'
  exact ⟨t, hstep₁ _ fun acts => by rw [doInvoke_state]; exact st.trans a1, a2⟩
variable {pc : Nat} {ls : Array Slot}
/-- throw new E("text") -/
theorem zx_throw (hx : p.tables.exec = Jvm.exec) (hb : c.code = cc) (hml : c.maxLocals = nL) (hls : ls.size = nL) (hfl : l.flags = pinnedFlags ++ [noTraceFlag]) {own cls tx : String} {names : List String} {ic icl ik q : Nat} (hown : s.vm.findClass own = some m.cls)
    (hcl : (Cond.classLink own icl cls).before args s = true) (hins : (Cond.instantiable cls 6).before args s = true) (hini : (Cond.initialized cls).before args s = true) (hZ : vk_R own ik tx q s) (hcls : Bundle.fit cls = true) (hnames : ∀ n ∈ names, Bundle.fit n = true) (h : ∀ a ∈ Bundle.ownAtoms own ic cls names, a.before args s = true)
    (hno : ∀ y ∈ c.exceptionTable.toList, False) (hlocks : meth.locks = false) (hsz : s.heap.size ≤ H.size) (hf : ∀ q ∈ locs, s.heap.size ≤ q.base)
    (d0 : decode cc pc = .ok (.new icl, 3)) (d1 : decode cc (pc + 3) = .ok (.dup, 1)) (d2 : decode cc (pc + 4) = .ok (.ldc ik, 2)) (d3 : decode cc (pc + 6) = .ok (.invokespecial ic, 3)) (d4 : decode cc (pc + 9) = .ok (.athrow, 1))
    (hc : cells + 1 ≤ R.cells) (hs : slots + 6 ≤ R.slots) (hR1 : names.length + 3 < R.frames) (hR2 : 1 + (13 * (names.length + 1) + 42) ≤ R.locals) :
    W p l e R s m args below meth c H locs cells slots (zXQ below cls s (cells + 1) (slots + 6)) (F0 m pc ls []) := by
  obtain ⟨cX, kX0, hfc, hkX0, -⟩ := Cond.instantiable_spec hins
  refine W.newcK hx hb hown hcl hins hini (g := F0 m pc ls []) rfl d0 hc hs hfc rfl (fun H1 kX hkX e1 z1 o1 => ?_)
  refine W.eq (g2 := F0 m (pc + 3) ls [.ref H.size]) rfl ?_
  refine lv_dup hx hb d1 rfl ?_
  refine va_ldcS hx hb hown hZ d2 ?_
  intro T hT X
  have X0 : Stand p l e R s m args below meth c T [] (cells + 1) (slots + 6) := Stand.forget (locs := []) X hf
  obtain ⟨U, a1, a2, a3, a4, a5, ce, a6, a7⟩ := X0.ctorThrowS hx (Launch.traces_off hfl X.admits) hown hcls hnames h (fun x hx _ _ => absurd hx (by simp)) (a := H.size) (cX := cX) (kX := kX) hfc hkX (by rw [hT, e1]; rfl) hsz (msg := .ref q) rfl (g := F0 m (pc + 6) ls [.ref q, .ref H.size, .ref H.size]) rfl (by show ls.size = _; rw [hls, hml]) rfl rfl (rest := []) rfl (by rw [hb]; exact d3) (by rw [hb]; exact d4) (fun x hx => (hno x hx).elim) hR1 (by show 2 * 0 + 1 + _ ≤ _; omega) hlocks
  exact ⟨U, a1, H.size, a2, a3, a4, a5, ce, a6, a7.vm, a7.cls⟩
end ZX2
section ZX3
/-- the search in a table of one row that names the thrown object's own class, resolved there or not -/
theorem zx_find {e : Env} {s : State} {f : JFrame} {x : Addr} {meth : Method} {c : Code} {h9 : ExceptionTableEntry} {ce : Cell} (hm : s.vm.method? f.method = some meth) (hc : meth.code = some c) (htab : c.exceptionTable.toList = [h9]) (hcov : h9.startPc ≤ f.pc ∧ f.pc < h9.endPc) (h0 : h9.catchType ≠ 0)
    (hl : s.vm.ClassLinks e.platform f.method.cls h9.catchType ce.cls) (hk : ∃ k, s.vm.classes[ce.cls]? = some k) (h1 : s.heap[x]? = some ce) (h2 : ce.vm = .none) (Q : Handler → Pre) (E : CtlPost) (d : Bool) (acts : List Action) :
    wp (findHandler f x) Q E e d acts s ↔ Q (.found h9.handlerPc) d acts (s.setVm (s.vm.noted f.method.cls h9.catchType (.cls ce.cls))) := by
  obtain ⟨k, hk⟩ := hk
  obtain ⟨g1, g2⟩ := (resolveClass_links e.toSetting hl).op (op := VmOp.resolveClass f.method.cls h9.catchType) rfl
  obtain ⟨k2, hk2, -⟩ := ((Vm.Alike.refl s.vm).noted f.method.cls h9.catchType (.cls ce.cls)).2.2 _ _ hk
  have hasg : (s.vm.noted f.method.cls h9.catchType (.cls ce.cls)).assignable ce.cls ce.cls = true := va_asg _ _
  have hst : ∀ z, ce.vm ≠ .statics z := fun z q => by rw [h2] at q; cases q
  rw [W.findHandler_eq hm hc, htab]
  simp [findHandler.go, hcov.1, hcov.2, h0, g1, g2, h1, hst, hk2, hasg, VmOp.dirties, VmOp.acts]
variable {p : Program} {l : Launch} {e : Env} {R : Room} {s : State} {m : MethodId} {args : Array Value} {below : List Frame} {meth : Method} {c : Code} {H : Heap} {locs : List Loc} {cells slots : Nat} {Q : State → Prop}
/-- caught in the method itself -/
theorem zx_catch {own E0 : String} (hown : s.vm.findClass own = some m.cls) {h9 : ExceptionTableEntry} {g : JFrame} {x : Addr} {ce : Cell} (htab : c.exceptionTable.toList = [h9]) (hcov : h9.startPc ≤ g.pc ∧ g.pc < h9.endPc) (h0 : h9.catchType ≠ 0) (hlink : (Cond.classLink own h9.catchType E0).before args s = true)
    (h1 : H[x]? = some ce) (h2 : ce.vm = .none) (h3 : s.vm.findClass E0 = some ce.cls) (hg : g.method = m) (k : W p l e R s m args below meth c H locs cells slots Q { g with pc := h9.handlerPc, stack := [.ref x] }) : XW p l e R s m args below meth c H locs cells slots Q g x := by
  intro T hT X
  subst hg
  have hpl : e.platform.magicAccessors = ({} : Platform).magicAccessors := by rw [X.admits.platform]
  obtain ⟨c', hc', hcl⟩ := Cond.classLink_spec hown hlink e.platform hpl
  cases h3.symm.trans hc'
  obtain ⟨dk, _, _, kt, hd, _, _, _, _, hkt, _, hopen⟩ := hcl.here
  have hlT := X.warmed.classLinks hcl
  obtain ⟨kT, hkT, -⟩ := X.warmed.alike.2.2 _ _ hkt
  have hW' : s.WarmedH (T.vm.noted g.method.cls h9.catchType (.cls ce.cls)) := X.warmed.noted hd hopen (State.rightAt_cls hcl)
  obtain ⟨t, a1, a2⟩ := k _ (show (T.setVm (T.vm.noted g.method.cls h9.catchType (.cls ce.cls))).heap = H from hT) (X.noted hW')
  refine ⟨t, ?_, a2⟩
  have hA : At T g.method c below := X.here
  obtain ⟨hgo, hwi⟩ := hA.throwing x
  refine Steps.head hgo hwi ?_
  have hS : (stepThrowing e ((T.setTop g).pushFrame (.throwing x)) x (.java g :: T.frames.tail)).Is ((((T.setTop g).pushFrame (.throwing x)).setVm (T.vm.noted g.method.cls h9.catchType (.cls ce.cls))).setFrames (.java { g with pc := h9.handlerPc, stack := [.ref x] } :: T.frames.tail)) [] := by
    simp only [stepThrowing, searchFrame, vmDo]
    generalize hr : Sem.go _ e false [] ((T.setTop g).pushFrame (.throwing x)) = res
    have hv := Stand.throwing_vm T g x
    have hh := Stand.throwing_heap T g x
    obtain ⟨as, rfl, ha⟩ := Sem.eq_ok_of hr (a := Handler.found h9.handlerPc) (s' := ((T.setTop g).pushFrame (.throwing x)).setVm (T.vm.noted g.method.cls h9.catchType (.cls ce.cls))) (acts' := []) (by
      have hq := fun Q9 E9 d9 acts9 => zx_find (e := e) (s := (T.setTop g).pushFrame (.throwing x)) (f := g) (x := x) (meth := meth) (c := c) (h9 := h9) (ce := ce) (by rw [hv]; exact X.method') X.code htab hcov h0 (by rw [hv]; exact hlT) ⟨kT, by rw [hv]; exact hkT⟩ (by rw [hh, hT]; exact h1) h2 Q9 E9 d9 acts9
      rw [hv] at hq
      simp [hq])
    exact ⟨rfl, ha⟩
  obtain ⟨g₀, hfe⟩ := X.frames_eq
  rw [stepThread_throwing (frames_entered hA.top _), hS.1]
  have hfe' : (T.setVm (T.vm.noted g.method.cls h9.catchType (.cls ce.cls))).frames = .java g₀ :: below := hfe
  rw [State.setTop_of_frames _ hfe'] at a1
  rw [hfe]
  have e9 : ∀ (F G : List Frame), (((T.setFrames F).setVm (T.vm.noted g.method.cls h9.catchType (.cls ce.cls))).setFrames G) = ((T.setVm (T.vm.noted g.method.cls h9.catchType (.cls ce.cls))).setFrames G) := fun F G => by
    rw [show (T.setFrames F).setVm (T.vm.noted g.method.cls h9.catchType (.cls ce.cls)) = (T.setVm (T.vm.noted g.method.cls h9.catchType (.cls ce.cls))).setFrames F from rfl, State.setFrames_setFrames]
  rw [State.pushFrame, State.setTop_of_frames _ hfe, State.setFrames_setFrames, e9]
  exact a1
/-- a method with handlers, by its walk -/
theorem MetH.ofW {y : MethodName} {ws ws' : List Cond} {rm : Room} {Pc : Array Value → State → Prop} {Qc : Array Value → State → Outcome → State → Prop} {mc ms : Nat} {free : Addr → Prop} {cc : ByteArray} {maxL : Nat} {ret : Option FieldType} {a1 a2 a3 a4 : Nat} (hy : plainName y.cls = true) (hw : ws = Cond.codeWith y cc maxL ret [(a1, a2, a3, a4)] :: ws')
    (body : ∀ p e s m args below meth c s₁, BodyLoose p l y (headSpec ws rm) cc maxL ret e s m args below meth c s₁ → c.maxLocals = maxL → (∃ h9 : ExceptionTableEntry, c.exceptionTable.toList = [h9] ∧ h9.startPc = a1 ∧ h9.endPc = a2 ∧ h9.handlerPc = a3 ∧ h9.catchType = a4) → Pc args s →
      W p l e (headSpec ws rm).room s m args below meth c s.heap [] 0 0 (MQ below Qc args s mc ms free) (entryFrame m args maxL)) : Met l y ws rm Pc Qc mc ms free := by
  refine MetFree.of_bodyS (code := cc) (maxLocals := maxL) (ret := ret) hy ?_ ?_
  · intro args s m h hn
    obtain ⟨m', meth, c, hn', h1, h2, h3, h4, -, h5, h6, -⟩ := Cond.codeWith_spec (atoms_spec (ws := ws) h _ (by rw [hw]; exact List.mem_cons_self))
    cases hn.symm.trans hn'
    exact ⟨meth, c, h1, h2, h3, h4, h5, h6⟩
  · intro p e s m args below meth c s₁ B hml hP _
    have hh0 : s₁.heap = s.heap := by rw [B.state]; rfl
    obtain ⟨m', meth', c', hn', h1, h2, -, -, h3, -, -, -⟩ := Cond.codeWith_spec (atoms_spec (ws := ws) B.pre _ (by rw [hw]; exact List.mem_cons_self))
    cases B.named.symm.trans hn'
    cases B.method.symm.trans h1
    cases (Stand.of_body B).code.symm.trans h2
    have hT : ∃ h9 : ExceptionTableEntry, c.exceptionTable.toList = [h9] ∧ h9.startPc = a1 ∧ h9.endPc = a2 ∧ h9.handlerPc = a3 ∧ h9.catchType = a4 := by
      cases ht : c.exceptionTable.toList with
      | nil => rw [ht] at h3; cases h3
      | cons z zs =>
        rw [ht] at h3
        cases zs with
        | nil => simp at h3; exact ⟨z, rfl, h3⟩
        | cons z2 zs2 => simp at h3
    obtain ⟨t, a1, o, b1, b2, b3⟩ := body p e s m args below meth c s₁ B hml hT hP s₁ hh0 (Stand.of_body B)
    exact ⟨t, o, a1, b1, b2, ⟨b3.1, b3.2⟩⟩
end ZX3
section ZH
variable {p : Program} {l : Launch} {e : Env} {R : Room} {s : State} {m : MethodId} {args : Array Value} {below : List Frame} {meth : Method} {c : Code} {H : Heap} {locs : List Loc} {cells slots : Nat} {Q : State → Prop}
  {Ts ws ws' : List Cond} {cc bytes : ByteArray} {nL maxL index n mc ms : Nat} {own : String} {y : MethodName} {ret : Option FieldType} {hh : List (Nat × Nat × Nat × Nat)} {rm : Room} {Pc : Array Value → State → Prop} {Qc : Array Value → State → Outcome → State → Prop} {free : Addr → Prop}
  {As rest : List Value} {g : JFrame}
/-- a call of a static method with handlers -/
theorem zh_runS (S : CallFix p m c cc nL s args Ts own) (hM : Met l y ws rm Pc Qc mc ms free) (hG : GoodIn Ts ws) (hwE : ws = Cond.codeWith y bytes maxL ret hh :: ws') (hrc : rm.cells = mc) (hrs : rm.slots = ms) (hini : (Cond.initialized y.cls).before args s = true) (hl : (Cond.methodLink own index y).before args s = true) (hstt : (Cond.static y).before args s = true)
    (hd : y.cls ≠ "java/lang/invoke/MethodHandle" ∧ y.cls ≠ "java/lang/invoke/VarHandle" ∧ (parseMethodDescriptor y.desc).map (fun d => d.parameters.length) = some n) (hR : rm.frames + 1 ≤ R.frames ∧ 8 + (maxL + 11) + rm.locals ≤ R.locals) (hp : PreS s H Pc As)
    (hg : g.method = m) (hn : As.length = n) (hsize : g.locals.size = nL) (hstack : g.stack = As.reverse ++ rest) (hW : 2 * g.monitorRoom + (rest.map fun v => v.category).sum ≤ 8) (hdg : decode cc g.pc = .ok (.invokestatic index, 3)) (hf : cells + mc ≤ R.cells ∧ slots + ms ≤ R.slots) :
    va_Run p l e R s m args below meth c H locs cells slots mc ms g rest (Qc As.toArray) (free) := by
  obtain ⟨hx, hb, hml, ho, hts⟩ := S
  have hws : ∀ w ∈ ws, ∀ (a' : Array Value) (U : State), s.WarmedH U.vm → w.before a' U = true := pay_in hts hG
  have hcw : Cond.codeWith y bytes maxL ret hh ∈ ws := by rw [hwE]; exact List.mem_cons_self
  have hcode : (Cond.codeWith y bytes maxL ret hh).before args s = true := hts _ (hG _ hcw).1
  have hK : Back l R p e below s args y 3 8 (PreOf R mc ms Pc) (PostOf Qc mc ms free) := by
    refine Back.of_freeWith (S := headSpec ws rm) (P := Pc) (K := fun _ _ _ _ _ => True) (Q := fun a st o t => Qc a st o t ∧ ∃ L, FrameEnd st o t L mc ms ∧ ∀ q ∈ L, free q.base) (bytes := bytes) (maxL := maxL) (ret := ret) (handlers := hh)
      (E := fun a st o t L k n => k = mc ∧ n = ms ∧ ∀ q ∈ L, free q.base) hM hR.1 hR.2 ?_ ?_ (fun _ _ _ _ _ _ _ _ _ => trivial) ?_ ?_
    · intro m meth c A a X hp
      exact ⟨atoms_intro fun w hw => hws w hw _ _ X.warmed, hws _ hcw _ _ X.warmed, word_at X.warmed (Or.inl (by first | rfl | simp [Cond.onTables, Cond.keeps, Cond.steady])) hini, by rw [show (headSpec ws rm).room.cells = mc from hrc]; exact hp.1, by rw [show (headSpec ws rm).room.slots = ms from hrs]; exact hp.2.1⟩
    · intro m meth c A a g mk X hq
      exact hp.1 _ _ _ _ hq.2.2
    · intro a st o t ⟨hq, L, hF, hL⟩
      exact ⟨L, mc, ms, hF, rfl, rfl, hL⟩
    · intro m meth c A a g mk v t L k n X hp hq hF ⟨e1, e2, hL⟩
      subst e1; subst e2
      exact ⟨g, mk, t, L, rfl, rfl, hq.1, rfl, hL, rfl, rfl⟩
  intro T hT X
  obtain ⟨mk, methM, cM, hnamed, hmethM, -, -, -, -, -, -, hsigM⟩ := Cond.codeWith_spec hcode
  have hstatic : methM.isStatic = true := Cond.static_spec hnamed hmethM hstt
  obtain ⟨kP, hkP, -⟩ := className_of_methodNamed hnamed
  have hinitP : kP.init = .initialized := Cond.initialized_spec (findClass_of_methodNamed hnamed) hkP hini
  have hlen : As.length = methM.sig.parameters.length := by
    have h2 := hd.2.2
    rw [hsigM] at h2
    rw [hn]
    exact (Option.some.inj h2).symm
  obtain ⟨vm₁, X₁, hstep₁⟩ := X.invokestatic hx ho hl hnamed hmethM hstatic hkP hinitP ⟨hd.1, hd.2.1⟩ (g := g) hg (argsL := As) (rest := rest) hlen hstack (by rw [hb]; exact hdg)
  obtain ⟨v, ⟨U', l2, c2, s2⟩, X', ⟨g', mk', t, L, e1, e2, hq, h1, hL, h2, h3⟩, hsteps⟩ := hK m meth c ⟨T.setVm vm₁, locs, cells, slots⟩ { g with stack := rest } (.invokestatic index) mk As.toArray X₁ hg (hsize.trans hml.symm) (by rw [hb]; exact hdg) hW (X₁.named hnamed) ⟨hf.1, hf.2, hp.2 (T.setVm vm₁) hT X₁.warmed⟩
  dsimp only [Pt.U, Pt.locs, Pt.cells, Pt.slots] at X' e1 e2 h1 h2 h3 hsteps
  subst h1; subst h2; subst h3
  exact ⟨v, (T.setVm vm₁).calling g' mk' As.toArray, t, U', L, hT, X', hL, e1, e2, hq, fun tg h => hstep₁ _ fun acts => by rw [doInvoke_state]; exact hsteps.trans h⟩
end ZH
def nX : List String := ["java/lang/RuntimeException", "java/lang/Exception"]
set_option maxRecDepth 20000 in
theorem oa_I {args : Array Value} {s : State} {A : Nat → Prop} (hw : ∀ w ∈ BIG, w.before args s = true) (h : gX A s) : ∀ a ∈ Bundle.ownAtoms RC 36 "java/lang/IllegalArgumentException" nX, a.before args s = true := by
  refine List.forall_mem_cons.mpr ⟨hw _ (mB (tb_1 (List.mem_of_getElem? (i := 6) rfl)) (by decide +kernel)), ?_⟩
  refine List.forall_mem_cons.mpr ⟨hw _ (mB (tb_2 (List.mem_of_getElem? (i := 60) rfl)) (by decide +kernel)), ?_⟩
  refine List.forall_mem_cons.mpr ⟨hw _ (mB (tb_2 (List.mem_of_getElem? (i := 69) rfl)) (by decide +kernel)), ?_⟩
  refine List.forall_mem_cons.mpr ⟨hw _ (mB (tb_2 (List.mem_of_getElem? (i := 72) rfl)) (by decide +kernel)), ?_⟩
  refine List.forall_mem_cons.mpr ⟨hw _ (mB (tb_2 (List.mem_of_getElem? (i := 75) rfl)) (by decide +kernel)), ?_⟩
  refine List.forall_mem_cons.mpr ⟨hw _ (mB (tb_2 (List.mem_of_getElem? (i := 77) rfl)) (by decide +kernel)), ?_⟩
  refine List.forall_mem_cons.mpr ⟨hw _ (mB (tb_2 (List.mem_of_getElem? (i := 61) rfl)) (by decide +kernel)), ?_⟩
  refine List.forall_mem_cons.mpr ⟨hw _ (mB (tb_2 (List.mem_of_getElem? (i := 62) rfl)) (by decide +kernel)), ?_⟩
  refine List.forall_mem_cons.mpr ⟨hw _ (mB (tb_1 (List.mem_of_getElem? (i := 19) rfl)) (by decide +kernel)), ?_⟩
  refine List.forall_mem_cons.mpr ⟨hw _ (mB (tb_1 (List.mem_of_getElem? (i := 20) rfl)) (by decide +kernel)), ?_⟩
  refine List.forall_mem_cons.mpr ⟨hw _ (mB (tb_2 (List.mem_of_getElem? (i := 63) rfl)) (by decide +kernel)), ?_⟩
  refine List.forall_mem_cons.mpr ⟨hw _ (mB (tb_2 (List.mem_of_getElem? (i := 68) rfl)) (by decide +kernel)), ?_⟩
  refine List.forall_mem_cons.mpr ⟨hw _ (mB (tb_2 (List.mem_of_getElem? (i := 73) rfl)) (by decide +kernel)), ?_⟩
  refine List.forall_mem_cons.mpr ⟨hw _ (mB (tb_2 (List.mem_of_getElem? (i := 93) rfl)) (by decide +kernel)), ?_⟩
  refine List.forall_mem_cons.mpr ⟨hw _ (mB (tb_2 (List.mem_of_getElem? (i := 50) rfl)) (by decide +kernel)), ?_⟩
  refine List.forall_mem_cons.mpr ⟨hw _ (mB (tb_2 (List.mem_of_getElem? (i := 94) rfl)) (by decide +kernel)), ?_⟩
  refine List.forall_mem_cons.mpr ⟨hw _ (mB (tb_2 (List.mem_of_getElem? (i := 52) rfl)) (by decide +kernel)), ?_⟩
  refine List.forall_mem_cons.mpr ⟨hw _ (mB (tb_2 (List.mem_of_getElem? (i := 95) rfl)) (by decide +kernel)), ?_⟩
  refine List.forall_mem_cons.mpr ⟨hw _ (mB (tb_2 (List.mem_of_getElem? (i := 54) rfl)) (by decide +kernel)), ?_⟩
  refine List.forall_mem_cons.mpr ⟨hw _ (mB (tb_2 (List.mem_of_getElem? (i := 64) rfl)) (by decide +kernel)), ?_⟩
  refine List.forall_mem_cons.mpr ⟨h.1.lays args, ?_⟩
  refine List.forall_mem_cons.mpr ⟨hw _ (mB (tb_2 (List.mem_of_getElem? (i := 66) rfl)) (by decide +kernel)), ?_⟩
  refine List.forall_mem_cons.mpr ⟨h.2.1.lays args, ?_⟩
  refine List.forall_mem_cons.mpr ⟨hw _ (mB (tb_2 (List.mem_of_getElem? (i := 56) rfl)) (by decide +kernel)), ?_⟩
  refine List.forall_mem_cons.mpr ⟨hw _ (mB (tb_2 (List.mem_of_getElem? (i := 89) rfl)) (by decide +kernel)), ?_⟩
  refine List.forall_mem_cons.mpr ⟨hw _ (mB (tb_2 (List.mem_of_getElem? (i := 90) rfl)) (by decide +kernel)), ?_⟩
  refine List.forall_mem_cons.mpr ⟨hw _ (mB (tb_2 (List.mem_of_getElem? (i := 92) rfl)) (by decide +kernel)), ?_⟩
  refine List.forall_mem_cons.mpr ⟨hw _ (mB (tb_2 (List.mem_of_getElem? (i := 56) rfl)) (by decide +kernel)), ?_⟩
  refine List.forall_mem_cons.mpr ⟨hw _ (mB (tb_2 (List.mem_of_getElem? (i := 80) rfl)) (by decide +kernel)), ?_⟩
  refine List.forall_mem_cons.mpr ⟨hw _ (mB (tb_2 (List.mem_of_getElem? (i := 81) rfl)) (by decide +kernel)), ?_⟩
  refine List.forall_mem_cons.mpr ⟨hw _ (mB (tb_2 (List.mem_of_getElem? (i := 82) rfl)) (by decide +kernel)), ?_⟩
  refine List.forall_mem_cons.mpr ⟨hw _ (mB (tb_2 (List.mem_of_getElem? (i := 83) rfl)) (by decide +kernel)), ?_⟩
  refine List.forall_mem_cons.mpr ⟨va_Nw.use rfl (h.2.2.2.1 _ (List.mem_of_getElem? (i := 0) rfl)), ?_⟩
  refine List.forall_mem_cons.mpr ⟨hw _ (mB (tb_2 (List.mem_of_getElem? (i := 83) rfl)) (by decide +kernel)), ?_⟩
  refine List.forall_mem_cons.mpr ⟨hw _ (mB (tb_2 (List.mem_of_getElem? (i := 84) rfl)) (by decide +kernel)), ?_⟩
  refine List.forall_mem_cons.mpr ⟨hw _ (mB (tb_2 (List.mem_of_getElem? (i := 85) rfl)) (by decide +kernel)), ?_⟩
  refine List.forall_mem_cons.mpr ⟨hw _ (mB (tb_2 (List.mem_of_getElem? (i := 86) rfl)) (by decide +kernel)), ?_⟩
  refine List.forall_mem_cons.mpr ⟨va_Nw.use rfl (h.2.2.2.1 _ (List.mem_of_getElem? (i := 1) rfl)), ?_⟩
  refine List.forall_mem_cons.mpr ⟨hw _ (mB (tb_2 (List.mem_of_getElem? (i := 86) rfl)) (by decide +kernel)), ?_⟩
  refine List.forall_mem_cons.mpr ⟨hw _ (mB (tb_2 (List.mem_of_getElem? (i := 87) rfl)) (by decide +kernel)), ?_⟩
  refine List.forall_mem_cons.mpr ⟨hw _ (mB (tb_2 (List.mem_of_getElem? (i := 88) rfl)) (by decide +kernel)), ?_⟩
  refine List.forall_mem_cons.mpr ⟨hw _ (mB (tb_2 (List.mem_of_getElem? (i := 89) rfl)) (by decide +kernel)), ?_⟩
  refine List.forall_mem_cons.mpr ⟨va_Nw.use rfl (h.2.2.2.1 _ (List.mem_of_getElem? (i := 2) rfl)), ?_⟩
  refine List.forall_mem_cons.mpr ⟨hw _ (mB (tb_2 (List.mem_of_getElem? (i := 79) rfl)) (by decide +kernel)), ?_⟩
  refine List.forall_mem_cons.mpr ⟨hw _ (mB (tb_2 (List.mem_of_getElem? (i := 39) rfl)) (by decide +kernel)), ?_⟩
  refine List.forall_mem_cons.mpr ⟨va_Nw.use rfl (h.2.2.2.2 _ (List.mem_of_getElem? (i := 0) rfl)), ?_⟩
  refine List.forall_mem_cons.mpr ⟨hw _ (mB (tb_2 (List.mem_of_getElem? (i := 47) rfl)) (by decide +kernel)), ?_⟩
  refine List.forall_mem_cons.mpr ⟨hw _ (mB (tb_2 (List.mem_of_getElem? (i := 48) rfl)) (by decide +kernel)), ?_⟩
  refine List.forall_mem_cons.mpr ⟨hw _ (mB (tb_2 (List.mem_of_getElem? (i := 49) rfl)) (by decide +kernel)), ?_⟩
  refine List.forall_mem_cons.mpr ⟨hw _ (mB (tb_2 (List.mem_of_getElem? (i := 51) rfl)) (by decide +kernel)), ?_⟩
  refine List.forall_mem_cons.mpr ⟨hw _ (mB (tb_2 (List.mem_of_getElem? (i := 53) rfl)) (by decide +kernel)), ?_⟩
  refine List.forall_mem_cons.mpr ⟨hw _ (mB (tb_2 (List.mem_of_getElem? (i := 55) rfl)) (by decide +kernel)), ?_⟩
  refine List.forall_mem_cons.mpr ⟨h.1.ref args, ?_⟩
  refine List.forall_mem_cons.mpr ⟨h.2.1.ref args, ?_⟩
  refine List.forall_mem_cons.mpr ⟨hw _ (mB (tb_2 (List.mem_of_getElem? (i := 59) rfl)) (by decide +kernel)), ?_⟩
  refine List.forall_mem_cons.mpr ⟨hw _ (mB (tb_2 (List.mem_of_getElem? (i := 58) rfl)) (by decide +kernel)), ?_⟩
  refine List.forall_mem_cons.mpr ⟨hw _ (mB (tb_2 (List.mem_of_getElem? (i := 57) rfl)) (by decide +kernel)), ?_⟩
  exact fun _ h9 => absurd h9 List.not_mem_nil
theorem w_is_IllegalArgumentException : (.instantiable "java/lang/IllegalArgumentException" 6 : Cond) ∈ BIG := (mB (tb_2 (List.mem_of_getElem? (i := 39) rfl)) (by decide +kernel))

set_option maxRecDepth 20000 in
theorem oa_S {args : Array Value} {s : State} {A : Nat → Prop} (hw : ∀ w ∈ BIG, w.before args s = true) (h : gX A s) : ∀ a ∈ Bundle.ownAtoms RC 123 "java/lang/IllegalStateException" nX, a.before args s = true := by
  refine List.forall_mem_cons.mpr ⟨hw _ (mB (tb_1 (List.mem_of_getElem? (i := 6) rfl)) (by decide +kernel)), ?_⟩
  refine List.forall_mem_cons.mpr ⟨hw _ (mB (tb_2 (List.mem_of_getElem? (i := 60) rfl)) (by decide +kernel)), ?_⟩
  refine List.forall_mem_cons.mpr ⟨hw _ (mB (tb_2 (List.mem_of_getElem? (i := 69) rfl)) (by decide +kernel)), ?_⟩
  refine List.forall_mem_cons.mpr ⟨hw _ (mB (tb_2 (List.mem_of_getElem? (i := 72) rfl)) (by decide +kernel)), ?_⟩
  refine List.forall_mem_cons.mpr ⟨hw _ (mB (tb_2 (List.mem_of_getElem? (i := 75) rfl)) (by decide +kernel)), ?_⟩
  refine List.forall_mem_cons.mpr ⟨hw _ (mB (tb_2 (List.mem_of_getElem? (i := 77) rfl)) (by decide +kernel)), ?_⟩
  refine List.forall_mem_cons.mpr ⟨hw _ (mB (tb_2 (List.mem_of_getElem? (i := 61) rfl)) (by decide +kernel)), ?_⟩
  refine List.forall_mem_cons.mpr ⟨hw _ (mB (tb_2 (List.mem_of_getElem? (i := 62) rfl)) (by decide +kernel)), ?_⟩
  refine List.forall_mem_cons.mpr ⟨hw _ (mB (tb_1 (List.mem_of_getElem? (i := 19) rfl)) (by decide +kernel)), ?_⟩
  refine List.forall_mem_cons.mpr ⟨hw _ (mB (tb_1 (List.mem_of_getElem? (i := 20) rfl)) (by decide +kernel)), ?_⟩
  refine List.forall_mem_cons.mpr ⟨hw _ (mB (tb_2 (List.mem_of_getElem? (i := 63) rfl)) (by decide +kernel)), ?_⟩
  refine List.forall_mem_cons.mpr ⟨hw _ (mB (tb_2 (List.mem_of_getElem? (i := 68) rfl)) (by decide +kernel)), ?_⟩
  refine List.forall_mem_cons.mpr ⟨hw _ (mB (tb_2 (List.mem_of_getElem? (i := 73) rfl)) (by decide +kernel)), ?_⟩
  refine List.forall_mem_cons.mpr ⟨hw _ (mB (tb_2 (List.mem_of_getElem? (i := 93) rfl)) (by decide +kernel)), ?_⟩
  refine List.forall_mem_cons.mpr ⟨hw _ (mB (tb_2 (List.mem_of_getElem? (i := 50) rfl)) (by decide +kernel)), ?_⟩
  refine List.forall_mem_cons.mpr ⟨hw _ (mB (tb_2 (List.mem_of_getElem? (i := 94) rfl)) (by decide +kernel)), ?_⟩
  refine List.forall_mem_cons.mpr ⟨hw _ (mB (tb_2 (List.mem_of_getElem? (i := 52) rfl)) (by decide +kernel)), ?_⟩
  refine List.forall_mem_cons.mpr ⟨hw _ (mB (tb_2 (List.mem_of_getElem? (i := 95) rfl)) (by decide +kernel)), ?_⟩
  refine List.forall_mem_cons.mpr ⟨hw _ (mB (tb_2 (List.mem_of_getElem? (i := 54) rfl)) (by decide +kernel)), ?_⟩
  refine List.forall_mem_cons.mpr ⟨hw _ (mB (tb_2 (List.mem_of_getElem? (i := 64) rfl)) (by decide +kernel)), ?_⟩
  refine List.forall_mem_cons.mpr ⟨h.1.lays args, ?_⟩
  refine List.forall_mem_cons.mpr ⟨hw _ (mB (tb_2 (List.mem_of_getElem? (i := 66) rfl)) (by decide +kernel)), ?_⟩
  refine List.forall_mem_cons.mpr ⟨h.2.1.lays args, ?_⟩
  refine List.forall_mem_cons.mpr ⟨hw _ (mB (tb_2 (List.mem_of_getElem? (i := 56) rfl)) (by decide +kernel)), ?_⟩
  refine List.forall_mem_cons.mpr ⟨hw _ (mB (tb_2 (List.mem_of_getElem? (i := 89) rfl)) (by decide +kernel)), ?_⟩
  refine List.forall_mem_cons.mpr ⟨hw _ (mB (tb_2 (List.mem_of_getElem? (i := 90) rfl)) (by decide +kernel)), ?_⟩
  refine List.forall_mem_cons.mpr ⟨hw _ (mB (tb_2 (List.mem_of_getElem? (i := 92) rfl)) (by decide +kernel)), ?_⟩
  refine List.forall_mem_cons.mpr ⟨hw _ (mB (tb_2 (List.mem_of_getElem? (i := 56) rfl)) (by decide +kernel)), ?_⟩
  refine List.forall_mem_cons.mpr ⟨hw _ (mB (tb_2 (List.mem_of_getElem? (i := 226) rfl)) (by decide +kernel)), ?_⟩
  refine List.forall_mem_cons.mpr ⟨hw _ (mB (tb_2 (List.mem_of_getElem? (i := 227) rfl)) (by decide +kernel)), ?_⟩
  refine List.forall_mem_cons.mpr ⟨hw _ (mB (tb_2 (List.mem_of_getElem? (i := 228) rfl)) (by decide +kernel)), ?_⟩
  refine List.forall_mem_cons.mpr ⟨hw _ (mB (tb_2 (List.mem_of_getElem? (i := 83) rfl)) (by decide +kernel)), ?_⟩
  refine List.forall_mem_cons.mpr ⟨va_Nw.use rfl (h.2.2.2.1 _ (List.mem_of_getElem? (i := 0) rfl)), ?_⟩
  refine List.forall_mem_cons.mpr ⟨hw _ (mB (tb_2 (List.mem_of_getElem? (i := 83) rfl)) (by decide +kernel)), ?_⟩
  refine List.forall_mem_cons.mpr ⟨hw _ (mB (tb_2 (List.mem_of_getElem? (i := 84) rfl)) (by decide +kernel)), ?_⟩
  refine List.forall_mem_cons.mpr ⟨hw _ (mB (tb_2 (List.mem_of_getElem? (i := 85) rfl)) (by decide +kernel)), ?_⟩
  refine List.forall_mem_cons.mpr ⟨hw _ (mB (tb_2 (List.mem_of_getElem? (i := 86) rfl)) (by decide +kernel)), ?_⟩
  refine List.forall_mem_cons.mpr ⟨va_Nw.use rfl (h.2.2.2.1 _ (List.mem_of_getElem? (i := 1) rfl)), ?_⟩
  refine List.forall_mem_cons.mpr ⟨hw _ (mB (tb_2 (List.mem_of_getElem? (i := 86) rfl)) (by decide +kernel)), ?_⟩
  refine List.forall_mem_cons.mpr ⟨hw _ (mB (tb_2 (List.mem_of_getElem? (i := 87) rfl)) (by decide +kernel)), ?_⟩
  refine List.forall_mem_cons.mpr ⟨hw _ (mB (tb_2 (List.mem_of_getElem? (i := 88) rfl)) (by decide +kernel)), ?_⟩
  refine List.forall_mem_cons.mpr ⟨hw _ (mB (tb_2 (List.mem_of_getElem? (i := 89) rfl)) (by decide +kernel)), ?_⟩
  refine List.forall_mem_cons.mpr ⟨va_Nw.use rfl (h.2.2.2.1 _ (List.mem_of_getElem? (i := 2) rfl)), ?_⟩
  refine List.forall_mem_cons.mpr ⟨hw _ (mB (tb_2 (List.mem_of_getElem? (i := 225) rfl)) (by decide +kernel)), ?_⟩
  refine List.forall_mem_cons.mpr ⟨hw _ (mB (tb_2 (List.mem_of_getElem? (i := 216) rfl)) (by decide +kernel)), ?_⟩
  refine List.forall_mem_cons.mpr ⟨va_Nw.use rfl (h.2.2.2.2 _ (List.mem_of_getElem? (i := 1) rfl)), ?_⟩
  refine List.forall_mem_cons.mpr ⟨hw _ (mB (tb_2 (List.mem_of_getElem? (i := 218) rfl)) (by decide +kernel)), ?_⟩
  refine List.forall_mem_cons.mpr ⟨hw _ (mB (tb_2 (List.mem_of_getElem? (i := 71) rfl)) (by decide +kernel)), ?_⟩
  refine List.forall_mem_cons.mpr ⟨hw _ (mB (tb_2 (List.mem_of_getElem? (i := 219) rfl)) (by decide +kernel)), ?_⟩
  refine List.forall_mem_cons.mpr ⟨hw _ (mB (tb_2 (List.mem_of_getElem? (i := 220) rfl)) (by decide +kernel)), ?_⟩
  refine List.forall_mem_cons.mpr ⟨hw _ (mB (tb_2 (List.mem_of_getElem? (i := 221) rfl)) (by decide +kernel)), ?_⟩
  refine List.forall_mem_cons.mpr ⟨hw _ (mB (tb_2 (List.mem_of_getElem? (i := 222) rfl)) (by decide +kernel)), ?_⟩
  refine List.forall_mem_cons.mpr ⟨h.1.ref args, ?_⟩
  refine List.forall_mem_cons.mpr ⟨h.2.1.ref args, ?_⟩
  refine List.forall_mem_cons.mpr ⟨hw _ (mB (tb_2 (List.mem_of_getElem? (i := 59) rfl)) (by decide +kernel)), ?_⟩
  refine List.forall_mem_cons.mpr ⟨hw _ (mB (tb_2 (List.mem_of_getElem? (i := 58) rfl)) (by decide +kernel)), ?_⟩
  refine List.forall_mem_cons.mpr ⟨hw _ (mB (tb_2 (List.mem_of_getElem? (i := 223) rfl)) (by decide +kernel)), ?_⟩
  exact fun _ h9 => absurd h9 List.not_mem_nil
theorem w_is_IllegalStateException : (.instantiable "java/lang/IllegalStateException" 6 : Cond) ∈ BIG := (mB (tb_2 (List.mem_of_getElem? (i := 216) rfl)) (by decide +kernel))
theorem nX_fit : ∀ n ∈ nX, Bundle.fit n = true := by decide
