-- methods of the JDK that only read: a contract and its calls (own work)
def xPu (v : Option Value) (s : State) (below : List Frame) (t : State) : Prop := t.status = .running ∧ Ended t below (.returned v) ∧ s.WarmedH t.vm ∧ s.sameButNew ({ t with vm := s.vm } : State) [] 0 0 ∧ t.heap = s.heap
theorem xPu.of {v : Option Value} {s : State} {below : List Frame} {args : Array Value} {t : State} (h : MQ below (fun _ _ o t => o = .returned v ∧ t.heap = s.heap) args s 0 0 (fun _ => False) t) : xPu v s below t := by
  obtain ⟨o, h1, h2, ⟨rfl, h4⟩, L, ⟨-, h5, h6⟩, h7⟩ := h
  have hL : L = [] := by
    cases L with
    | nil => rfl
    | cons q r => exact (h7 q List.mem_cons_self).elim
  subst hL
  exact ⟨h1, h2, h5, h6, h4⟩
def xPm (p : Program) (l : Launch) (e : Env) (G : State → Prop) (y : MethodName) (code : ByteArray) (ml : Nat) (rt : Option FieldType) (fr lo : Nat) (vs : List Value) (v : Option Value) : Prop :=
  ∀ (R : Room) (s : State) (mk : MethodId) (below : List Frame) (methk : Method) (ck : Code), s.vm.findClass y.cls = some mk.cls → ck.code = code → ck.maxLocals = ml → methk.sig.returnType = rt → methk.locks = false → G s → fr ≤ R.frames → lo ≤ R.locals →
    W p l e R s mk vs.toArray below methk ck s.heap [] 0 0 (xPu v s below) (entryFrame mk vs.toArray ml)
section XP
variable {p : Program} {l : Launch} {e : Env} {R : Room} {s : State} {m : MethodId} {args : Array Value} {below : List Frame} {meth : Method} {c : Code} {H : Heap} {locs : List Loc} {cells slots : Nat} {Q : State → Prop}
variable {D : va_G} {cs : Nat → ClassId} {ad : Nat → Nat → Nat} {A : Nat → Prop} {H0 : Heap} {N : Nat} {xs : Nat → Int32} {own : String} {idx ml fr lo pc : Nat} {y : MethodName} {code cc : ByteArray} {rt : Option FieldType} {vs rest : List Value} {v : Option Value} {ls : Array Slot}
theorem xp_back (hP : xPm p l e (xGG D cs ad A H0 N xs) y code ml rt fr lo vs v) (hb : c.code = cc) (hml : c.maxLocals = ls.size) (hG : xGG D cs ad A H0 N xs s) {mk : MethodId} {methk : Method} {ck : Code} (y1 : s.methodNamed? y = some mk) (y2 : s.vm.method? mk = some methk) (y3 : methk.code = some ck) (y4 : ck.code = code) (y5 : ck.maxLocals = ml) (y7 : methk.sig.returnType = rt) (y8 : methk.locks = false) (hpl : plainFor y = true)
    (hfr : fr + 1 ≤ R.frames) (hlo : (rest.map fun v => v.category).sum + (ml + 11) + lo ≤ R.locals) (hc : cells ≤ R.cells) (hs : slots ≤ R.slots) (hS : va_S A H0 H []) (hq : ∀ q ∈ xprs, ad q.1 q.2 < H.size) {ig : Jvm.ClassFile.Instr} (hdg : decode cc pc = .ok (ig, 3)) {T T1 : State} (hT : T1.heap = H) (X : Stand p l e R s m args below meth c T1 locs cells slots)
    (res : ∀ target, Steps p.tables e below (doInvoke e (T1.setTop (F0 m pc ls rest)) [] mk vs.toArray).1 target → Steps p.tables e below T target)
    (kk : W p l e R s m args below meth c H locs cells slots Q (F0 m (pc + 3) ls (v.toList ++ rest))) : ∃ t, Steps p.tables e below T t ∧ Q t := by
  obtain ⟨t1, st1, h1, h2, h3, h4, h5⟩ := xin X (g := F0 m pc ls rest) rfl hml.symm (by rw [hb]; exact hdg) y1 y2 y3 y8 hpl (R' := { frames := fr, cells := 0, slots := 0, locals := lo }) hfr (by show 2 * 0 + (rest.map fun v => v.category).sum + (ck.maxLocals + 11) + lo ≤ R.locals; rw [y5]; omega) (by show cells + 0 ≤ _; omega) (by show slots + 0 ≤ _; omega) vs
    (Qk := xPu v (T1.calling (F0 m pc ls rest) mk vs.toArray) (.java (F0 m pc ls rest) :: below))
    (by
      rw [y5]
      refine hP _ (T1.calling (F0 m pc ls rest) mk vs.toArray) mk _ methk ck ?_ y4 y5 y7 y8 (xGG.warm s _ hG X.warmed ?_ ?_) (Nat.le_refl _) (Nat.le_refl _)
      · show T1.vm.findClass _ = _
        rw [X.warmed.alike.findClass]
        exact findClass_of_methodNamed y1
      · show va_S A H0 T1.heap []
        rw [hT]
        exact hS
      · show ∀ q ∈ xprs, ad q.1 q.2 < T1.heap.size
        rw [hT]
        exact hq)
  obtain ⟨T', X', -, -, ht⟩ := X.outOf (g := F0 m pc ls rest) rfl (by rw [hb]; exact hdg) h2 h3 h4
  rw [List.append_nil, Nat.add_zero, Nat.add_zero] at X'
  have hh : T'.heap = H := by
    have e1 : t1.heap = T'.heap := by rw [ht]; rfl
    rw [← e1, h5]
    exact hT
  obtain ⟨t, a1, b1⟩ := kk T' hh X'
  exact ⟨t, res _ (st1.trans (by rw [ht]; exact a1)), b1⟩
theorem xpc_s (hexec : p.tables.exec = Jvm.exec) (hP : xPm p l e (xGG D cs ad A H0 N xs) y code ml rt fr lo vs v) (hb : c.code = cc) (hml : c.maxLocals = ls.size) (hown : s.vm.findClass own = some m.cls) (hG : xGG D cs ad A H0 N xs s) (hlink : va_Nw (.methodLink own idx y) s) (hst : va_Nw (.static y) s) (hini : va_Nw (.initialized y.cls) s) (hmf : va_Nw (.code y code ml rt) s) (hpl : plainFor y = true) (hy : y.cls ≠ "java/lang/invoke/MethodHandle" ∧ y.cls ≠ "java/lang/invoke/VarHandle")
    (hlen : (parseMethodDescriptor y.desc).map (fun d => d.parameters.length) = some vs.length) (hfr : fr + 1 ≤ R.frames) (hlo : (rest.map fun v => v.category).sum + (ml + 11) + lo ≤ R.locals) (hc : cells ≤ R.cells) (hs : slots ≤ R.slots) (hS : va_S A H0 H []) (hq : ∀ q ∈ xprs, ad q.1 q.2 < H.size) (hdg : decode cc pc = .ok (.invokestatic idx, 3)) {stk : List Value} (hstk : stk = vs.reverse ++ rest)
    (kk : W p l e R s m args below meth c H locs cells slots Q (F0 m (pc + 3) ls (v.toList ++ rest))) : W p l e R s m args below meth c H locs cells slots Q (F0 m pc ls stk) := by
  subst hstk
  intro T hT X
  obtain ⟨mk, methk, ck, y1, y2, y3, y4, y5, y6, y7, y8, y9⟩ := xMf.of hmf
  obtain ⟨vm', X₁, res⟩ := xres_s X hexec hown (Or.inl hlink) hst hini y1 y2 y9 hy (g := F0 m pc ls (vs.reverse ++ rest)) rfl (vs := vs) (rest := rest) hlen rfl (by rw [hb]; exact hdg)
  exact xp_back hP hb hml hG y1 y2 y3 y4 y5 y7 y8 hpl hfr hlo hc hs hS hq hdg (T1 := T.setVm vm') hT X₁ res kk
theorem xpc_v (hexec : p.tables.exec = Jvm.exec) {b : Addr} {As : List Value} (hP : xPm p l e (xGG D cs ad A H0 N xs) y code ml rt fr lo (.ref b :: As) v) (hb : c.code = cc) (hml : c.maxLocals = ls.size) (hown : s.vm.findClass own = some m.cls) (hG : xGG D cs ad A H0 N xs s) (hlink : va_Nw (.methodLink own idx y) s) (hin : va_Nw (.instanceMethod y) s) (hsel : va_Nw (.selects y.cls y y) s) (hmf : va_Nw (.code y code ml rt) s) (hpl : plainFor y = true) (hy : y.cls ≠ "java/lang/invoke/MethodHandle" ∧ y.cls ≠ "java/lang/invoke/VarHandle")
    (hrec : ∃ cell : Cell, H[b]? = some cell ∧ cell.vm.isStatics = false ∧ s.vm.findClass y.cls = some cell.cls)
    (hlen : (parseMethodDescriptor y.desc).map (fun d => d.parameters.length) = some As.length) (hfr : fr + 1 ≤ R.frames) (hlo : (rest.map fun v => v.category).sum + (ml + 11) + lo ≤ R.locals) (hc : cells ≤ R.cells) (hs : slots ≤ R.slots) (hS : va_S A H0 H []) (hq : ∀ q ∈ xprs, ad q.1 q.2 < H.size) (hdg : decode cc pc = .ok (.invokevirtual idx, 3)) {stk : List Value} (hstk : stk = As.reverse ++ .ref b :: rest)
    (kk : W p l e R s m args below meth c H locs cells slots Q (F0 m (pc + 3) ls (v.toList ++ rest))) : W p l e R s m args below meth c H locs cells slots Q (F0 m pc ls stk) := by
  subst hstk
  intro T hT X
  obtain ⟨mk, methk, ck, y1, y2, y3, y4, y5, y6, y7, y8, y9⟩ := xMf.of hmf
  obtain ⟨cellB, z1, z2, z3⟩ := hrec
  obtain ⟨vm', X₁, res⟩ := xres_v X hexec hown (Or.inl hlink) hin hsel y1 y2 y9 hy (b := b) (cellB := cellB) (by rw [hT]; exact z1) z2 z3 (g := F0 m pc ls (As.reverse ++ .ref b :: rest)) rfl (vs := As) (rest := rest) hlen rfl (by rw [hb]; exact hdg)
  exact xp_back hP hb hml hG y1 y2 y3 y4 y5 y7 y8 hpl hfr hlo hc hs hS hq hdg (T1 := T.setVm vm') hT X₁ res kk
end XP
