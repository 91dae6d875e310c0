-- into a method and out of it (own work)
def xMf (y : MethodName) (code : ByteArray) (ml : Nat) (rt : Option FieldType) (et : List (Nat × Nat × Nat × Nat)) (s : State) : Prop :=
  ∃ (mk : MethodId) (methk : Method) (ck : Code), s.methodNamed? y = some mk ∧ s.vm.method? mk = some methk ∧ methk.code = some ck ∧ ck.code = code ∧ ck.maxLocals = ml ∧
    ck.exceptionTable.toList.map (fun h => (h.startPc, h.endPc, h.handlerPc, h.catchType)) = et ∧ methk.sig.returnType = rt ∧ methk.locks = false ∧ parseMethodDescriptor y.desc = some methk.sig
theorem xMf.of {y : MethodName} {code : ByteArray} {ml : Nat} {rt : Option FieldType} {s : State} (h : va_Nw (.code y code ml rt) s) : xMf y code ml rt [] s := by
  obtain ⟨mk, hn⟩ := Cond.code_named h
  obtain ⟨meth, c, h1, h2, h3, h4, h5, h6, h7, h8⟩ := Cond.code_spec hn h
  refine ⟨mk, meth, c, hn, h1, h2, h3, h4, ?_, h5, h6, h8⟩
  have : c.exceptionTable = #[] := by simpa using h7
  rw [this]
  rfl
theorem xMf.with {y : MethodName} {code : ByteArray} {ml : Nat} {rt : Option FieldType} {et : List (Nat × Nat × Nat × Nat)} {s : State} (h : va_Nw (.codeWith y code ml rt et) s) : xMf y code ml rt et s := by
  obtain ⟨mk, meth, c, hn, h1, h2, h3, h4, h5, h6, h7, h8⟩ := Cond.codeWith_spec h
  exact ⟨mk, meth, c, hn, h1, h2, h3, h4, h5, h6, h7, h8⟩
def xlink (own : String) (idx : Nat) (y : MethodName) (s : State) : Prop := va_Nw (.methodLink own idx y) s ∨ ∃ host : String, va_Nw (.methodLinkNest own idx y host) s
theorem xStepsW {tb : Tables} {e : Env} {g : Frame} {below : List Frame} {a b : State} (h : Steps tb e (g :: below) a b) : Steps tb e below a b := by
  obtain ⟨n, hn, w⟩ := h
  exact ⟨n, hn, fun k hk => (show Within _ ([g] ++ below) from w k hk).weaken⟩
section X6
variable {p : Program} {l : Launch} {e : Env} {R : Room} {s : State} {m : MethodId} {args : Array Value} {below : List Frame} {meth : Method} {c : Code} {T : State} {locs : List Loc} {cells slots : Nat}
theorem W.wk {H : Heap} {Q Q' : State → Prop} {g : JFrame} (h : W p l e R s m args below meth c H locs cells slots Q g) (hQ : ∀ t, Q t → Q' t) : W p l e R s m args below meth c H locs cells slots Q' g := by
  intro T hT X
  obtain ⟨t, a1, b1⟩ := h T hT X
  exact ⟨t, a1, hQ t b1⟩
theorem xin (X : Stand p l e R s m args below meth c T locs cells slots) {g : JFrame} (hg : g.method = m) (hsize : g.locals.size = c.maxLocals) {ig : Jvm.ClassFile.Instr} (hdg : decode c.code g.pc = .ok (ig, 3))
    {y : MethodName} {mk : MethodId} {methk : Method} {ck : Code} (hn : s.methodNamed? y = some mk) (hmk : s.vm.method? mk = some methk) (hck : methk.code = some ck) (hlk : methk.locks = false) (hpl : plainFor y = true)
    {R' : Room} (hfr : R'.frames + 1 ≤ R.frames) (hlo : 2 * g.monitorRoom + (g.stack.map fun v => v.category).sum + (ck.maxLocals + 11) + R'.locals ≤ R.locals) (hc : cells + R'.cells ≤ R.cells) (hs : slots + R'.slots ≤ R.slots) (vs : List Value) {Qk : State → Prop}
    (body : W p l e R' (T.calling g mk vs.toArray) mk vs.toArray (.java g :: below) methk ck T.heap [] 0 0 Qk (entryFrame mk vs.toArray ck.maxLocals)) :
    ∃ t, Steps p.tables e below (doInvoke e (T.setTop g) [] mk vs.toArray).1 t ∧ Qk t := by
  have hmT : T.vm.method? mk = some methk := by rw [X.warmed.alike.method?]; exact hmk
  obtain ⟨Y, hin⟩ := X.into hg hsize hdg vs.toArray (R' := R') hmT hck hlk (State.plainMethod.of_named hpl (X.named hn) hmT) hfr hlo hc hs
  obtain ⟨t, h1, h2⟩ := body ((T.setTop g).pushFrame (.java (entryFrame mk vs.toArray ck.maxLocals))) rfl Y
  exact ⟨t, by rw [hin []]; exact xStepsW h1, h2⟩
-- a static call resolves
theorem xres_s (X : Stand p l e R s m args below meth c T locs cells slots) (hexec : p.tables.exec = Jvm.exec) {own : String} {idx : Nat} {y : MethodName} (hown : s.vm.findClass own = some m.cls) (hlink : xlink own idx y s) (hst : va_Nw (.static y) s) (hini : va_Nw (.initialized y.cls) s)
    {mk : MethodId} {methk : Method} (hn : s.methodNamed? y = some mk) (hmk : s.vm.method? mk = some methk) (hsig : parseMethodDescriptor y.desc = some methk.sig) (hy : y.cls ≠ "java/lang/invoke/MethodHandle" ∧ y.cls ≠ "java/lang/invoke/VarHandle")
    {g : JFrame} (hg : g.method = m) {vs rest : List Value} (hlen : (parseMethodDescriptor y.desc).map (fun d => d.parameters.length) = some vs.length) (hstack : g.stack = vs.reverse ++ rest) (hdg : decode c.code g.pc = .ok (.invokestatic idx, 3)) :
    ∃ vm', Stand p l e R s m args below meth c (T.setVm vm') locs cells slots ∧
      ∀ target, Steps p.tables e below (doInvoke e ((T.setVm vm').setTop { g with stack := rest }) [] mk vs.toArray).1 target → Steps p.tables e below (T.setTop g) target := by
  have hstatic : methk.isStatic = true := Cond.static_spec hn hmk hst
  obtain ⟨kP, hkP, -⟩ := className_of_methodNamed hn
  have hinitP : kP.init = .initialized := Cond.initialized_spec (findClass_of_methodNamed hn) hkP hini
  have hl2 : vs.length = methk.sig.parameters.length := by
    rw [hsig] at hlen
    exact (Option.some.inj hlen).symm
  rcases hlink with hlink | ⟨host, hlink⟩
  · obtain ⟨vm₁, X₁, hstep₁⟩ := X.invokestatic hexec hown (va_Nw.use rfl hlink) hn hmk hstatic hkP hinitP hy (g := g) hg (argsL := vs) (rest := rest) hl2 hstack hdg
    exact ⟨vm₁, X₁, fun target h => hstep₁ _ fun acts => by rw [doInvoke_state]; exact h⟩
  · obtain ⟨vm₁, X₁, hstep₁⟩ := X.invokestaticNest hexec hown (va_Nw.use rfl hlink) hn hmk hstatic hkP hinitP hy (g := g) hg (argsL := vs) (rest := rest) hl2 hstack hdg
    exact ⟨vm₁, X₁, fun target h => hstep₁ _ fun acts => by rw [doInvoke_state]; exact h⟩
-- a virtual call resolves
theorem xres_v (X : Stand p l e R s m args below meth c T locs cells slots) (hexec : p.tables.exec = Jvm.exec) {own : String} {idx : Nat} {y : MethodName} (hown : s.vm.findClass own = some m.cls) (hlink : xlink own idx y s) (hinst : va_Nw (.instanceMethod y) s) (hsel : va_Nw (.selects y.cls y y) s)
    {mk : MethodId} {methk : Method} (hn : s.methodNamed? y = some mk) (hmk : s.vm.method? mk = some methk) (hsig : parseMethodDescriptor y.desc = some methk.sig) (hy : y.cls ≠ "java/lang/invoke/MethodHandle" ∧ y.cls ≠ "java/lang/invoke/VarHandle")
    {b : Addr} {cellB : Cell} (hcell : T.heap[b]? = some cellB) (hobj : cellB.vm.isStatics = false) (hcls : s.vm.findClass y.cls = some cellB.cls)
    {g : JFrame} (hg : g.method = m) {vs rest : List Value} (hlen : (parseMethodDescriptor y.desc).map (fun d => d.parameters.length) = some vs.length) (hstack : g.stack = vs.reverse ++ .ref b :: rest) (hdg : decode c.code g.pc = .ok (.invokevirtual idx, 3)) :
    ∃ vm', Stand p l e R s m args below meth c (T.setVm vm') locs cells slots ∧
      ∀ target, Steps p.tables e below (doInvoke e ((T.setVm vm').setTop { g with stack := rest }) [] mk (Value.ref b :: vs).toArray).1 target → Steps p.tables e below (T.setTop g) target := by
  obtain ⟨mk2, methM, hn2, hm2, hstM, habM⟩ := Cond.instanceMethod_spec hinst
  cases hn.symm.trans hn2
  cases hmk.symm.trans hm2
  obtain ⟨c2, r2, m2, q1, q2, q3, q4, kP, hkP, hkPi⟩ := Cond.selects_spec hsel
  cases hcls.symm.trans q1
  cases (State.methodFound?_of_named hn hy).symm.trans q2
  cases hn.symm.trans q3
  have hselP : selectMethod e.platform s.vm cellB.cls mk = .method mk := by rw [Launch.admits_selectMethod X.admits]; exact q4
  have hl2 : vs.length = methk.sig.parameters.length := by
    rw [hsig] at hlen
    exact (Option.some.inj hlen).symm
  rcases hlink with hlink | ⟨host, hlink⟩
  · obtain ⟨vm₁, X₁, hstep₁⟩ := X.invokevirtual hexec hown (va_Nw.use rfl hlink) hn hmk hstM hkP hkPi hy (a := b) (cell := cellB) hcell
      (fun z h => by rw [h] at hobj; cases hobj) hselP hmk habM hkP hkPi (g := g) hg (argsL := vs) (rest := rest) hl2 hstack hdg
    exact ⟨vm₁, X₁, fun target h => hstep₁ _ fun acts => by rw [doInvoke_state]; exact h⟩
  · obtain ⟨vm₁, X₁, hstep₁⟩ := X.invokevirtualNest hexec hown (va_Nw.use rfl hlink) hn hmk hstM hkP hkPi hy (a := b) (cell := cellB) hcell
      (fun z h => by rw [h] at hobj; cases hobj) hselP hmk habM hkP hkPi (g := g) hg (argsL := vs) (rest := rest) hl2 hstack hdg
    exact ⟨vm₁, X₁, fun target h => hstep₁ _ fun acts => by rw [doInvoke_state]; exact h⟩
end X6
