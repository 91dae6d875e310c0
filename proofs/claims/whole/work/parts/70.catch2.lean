-- catching in the law's own helpers (own work; cases written by gen/t.py)
def xdcl : List MethodName := [⟨"java/lang/RuntimeException", "<init>", "(Ljava/lang/String;)V"⟩, ⟨"java/lang/Exception", "<init>", "(Ljava/lang/String;)V"⟩, ⟨"java/lang/Throwable", "<init>", "(Ljava/lang/String;)V"⟩]
def xLS (O n d : String) (A : Nat → Prop) (U : State) (H : Heap) : Prop := ∃ (c : ClassId) (k : Class) (i : Nat) (f : Field) (a : Nat) (cell : Cell), U.vm.findClass O = some c ∧ U.fieldFound? O n d = some (c, k, i, f) ∧ f.isStatic = true ∧ k.statics = some a ∧ H[a]? = some cell ∧ cell.vm.isStatics = true ∧ cell.cls = c ∧ f.slot < cell.slots.size ∧ k.staticTypes[f.slot]? = some f.type ∧ ¬ A a
theorem xLS.moved {O n d : String} {A : Nat → Prop} {u U : State} {H : Heap} (hvm : u.vm.Alike U.vm) (h : xLS O n d A u H) : xLS O n d A U H := by
  obtain ⟨c, k, i, f, a, cell, h1, h2, h3, h4, h5, h6, h7, h8, h9, h10⟩ := h
  obtain ⟨k', hi', he⟩ := State.fieldFound?_setVm hvm h2
  exact ⟨c, k', i, f, a, cell, by rw [hvm.findClass]; exact h1, hi', h3, by rw [he]; exact h4, h5, h6, h7, h8, by rw [he]; exact h9, h10⟩
theorem xLS.kept {O n d : String} {A : Nat → Prop} {U : State} {H H1 : Heap} (h : xLS O n d A U H) (hq : ∀ a : Nat, a < H.size → ¬ A a → H1[a]? = H[a]?) : xLS O n d A U H1 := by
  obtain ⟨c, k, i, f, a, cell, h1, h2, h3, h4, h5, h6, h7, h8, h9, h10⟩ := h
  exact ⟨c, k, i, f, a, cell, h1, h2, h3, h4, by rw [hq a (Array.getElem?_eq_some_iff.mp h5).1 h10]; exact h5, h6, h7, h8, h9, h10⟩
theorem xLS.use {O n d : String} {A : Nat → Prop} {args : Array Value} {s : State} (h : xLS O n d A s s.heap) : (Cond.laysStatic O n d).before args s = true := by
  obtain ⟨c, k, i, f, a, cell, h1, h2, h3, h4, h5, h6, h7, h8, h9, -⟩ := h
  simp [Cond.before, Cond.holds, Cond.value, h1, h2, h3, h4, h5, h6, h7, h8, h9]
theorem xLS.of {O n d : String} {A : Nat → Prop} {args : Array Value} {s : State} (h : (Cond.laysStatic O n d).before args s = true) (hA : ∀ a : Nat, a < s.heap.size → ¬ A a) : xLS O n d A s s.heap := by
  obtain ⟨c, k, i, f, a, cell, h1, h2, h3, h4, h5, h6, h7, h8, h9⟩ := Cond.laysStatic_spec h
  exact ⟨c, k, i, f, a, cell, h1, h2, h3, h4, h5, h6, h7, h8, h9, hA a (Array.getElem?_eq_some_iff.mp h5).1⟩
def xX (A : Nat → Prop) (H0 : Heap) (s : State) : Prop := (xLS "java/lang/Throwable" "UNASSIGNED_STACK" "[Ljava/lang/StackTraceElement;" A s H0 ∧ xLS "java/lang/Throwable" "SUPPRESSED_SENTINEL" "Ljava/util/List;" A s H0) ∧ va_Nc "java/lang/IllegalStateException" "java/lang/IllegalArgumentException" s ∧ va_Nc "java/lang/IndexOutOfBoundsException" "java/lang/IllegalArgumentException" s ∧ va_Nc "java/util/NoSuchElementException" "java/lang/IllegalStateException" s ∧ (∀ x, x < 4 → ∃ c, s.vm.findClass (xm_xn x) = some c ∧ s.vm.assignable c c = true) ∧ ∀ y ∈ xdcl, va_Nw (.declares y) s
theorem xX.warm {A : Nat → Prop} {H0 : Heap} {s U : State} (hW : s.WarmedH U.vm) (h : xX A H0 s) : xX A H0 U := by
  have hvm := hW.alike
  refine ⟨⟨h.1.1.moved hvm, h.1.2.moved hvm⟩, h.2.1.moved hvm, h.2.2.1.moved hvm, h.2.2.2.1.moved hvm, fun x hx => ?_, fun y hy => va_Nw.warmD hW (h.2.2.2.2.2 y hy)⟩
  obtain ⟨c, h1, h2⟩ := h.2.2.2.2.1 x hx
  exact ⟨c, by rw [hvm.findClass]; exact h1, by rw [hvm.assignable]; exact h2⟩
def xGG (D : va_G) (cs : Nat → ClassId) (ad : Nat → Nat → Nat) (A : Nat → Prop) (H0 : Heap) (N : Nat) (xs : Nat → Int32) (s : State) : Prop := xG D cs ad A H0 N xs s ∧ xX A H0 s
def xcT (pl : Platform) (s : State) (d : ClassId) (pc : Nat) (th : ClassId) : List (Nat × Nat × Nat × Nat) → Nat → Prop
  | [], _ => False
  | q :: t, h => ((decide (q.1 ≤ pc) && decide (pc < q.2.1)) = false ∧ xcT pl s d pc th t h) ∨ ((decide (q.1 ≤ pc) && decide (pc < q.2.1)) = true ∧ q.2.2.2 ≠ 0 ∧ ∃ c, s.vm.ClassLinks pl d q.2.2.2 c ∧ ((s.vm.assignable th c = false ∧ xcT pl s d pc th t h) ∨ (s.vm.assignable th c = true ∧ q.2.2.1 = h)))
theorem xcT_map {pl : Platform} {s : State} {d : ClassId} {pc : Nat} {th : ClassId} {h : Nat} : ∀ es : List ExceptionTableEntry, xcT pl s d pc th (es.map fun h => (h.startPc, h.endPc, h.handlerPc, h.catchType)) h → xcatch pl s d pc th es h
  | [], hz => hz
  | x :: t, hz => by
    rcases hz with ⟨a, b⟩ | ⟨a, b, c, d, e⟩
    · exact Or.inl ⟨a, xcT_map t b⟩
    · refine Or.inr ⟨a, b, c, d, ?_⟩
      rcases e with ⟨e1, e2⟩ | e
      · exact Or.inl ⟨e1, xcT_map t e2⟩
      · exact Or.inr e
section XC
variable {p : Program} {l : Launch} {e : Env} {R : Room} {s : State} {m : MethodId} {args : Array Value} {below : List Frame} {meth : Method} {c : Code} {locs : List Loc} {cells slots : Nat}
variable {D : va_G} {cl : List vw_C} {cs : Nat → ClassId} {ad : Nat → Nat → Nat} {A : Nat → Prop} {H0 : Heap} {N : Nat} {xs : Nat → Int32} {k pc x h h2 : Nat} {d : Int32} {nn : Int} {ls : Array Slot} {stk : List Value} {σ : xm_M} {c1 : Bool} {T : State} {a : Addr}
theorem xcat_of (hexec : p.tables.exec = Jvm.exec) (j : Nat) (hd1 : (∃ j' : Fin 4, (j' : Nat) = j ∧ decode (xm_code k) h = .ok (.astore_n j', 1) ∧ h2 = h + 1) ∨ (decode (xm_code k) h = .ok (.astore j, 2) ∧ h2 = h + 2)) (hd2 : decode (xm_code k) h2 = .ok (.iconst nn, 1)) (hd3 : decode (xm_code k) (h2 + 1) = .ok (.ireturn, 1)) (hnn : Int32.ofInt nn = d) (hrt : xm_rt k = some .int) (hj : j < xm_ml k)
    (hfx : xFix k s m meth c) (hz : ∀ th, s.vm.findClass (xm_xn x) = some th → xcT e.platform s m.cls pc th (xm_et k) h) (X : Stand p l e R s m args below meth c T locs cells slots) (hx : xThr x a T) (hls : ls.size = xm_ml k) (hwf : lv_wf ls) (hM : xMem D cl cs ad A H0 N xs σ T.heap locs) (hc : c1 = true → locs = []) :
    ∃ t, Steps p.tables e below ((T.setTop (F0 m pc ls stk)).pushFrame (.throwing a)) t ∧ xEnd D cl cs ad A H0 N xs (.inl (some (xI d)), σ, c1, 0) s below cells slots t := by
  obtain ⟨cell, y1, y2, y3⟩ := hx
  have y4 : s.vm.findClass (xm_xn x) = some cell.cls := by rw [← X.warmed.alike.findClass]; exact y3
  obtain ⟨vm', X', st⟩ := xcaught X a (g := F0 m pc ls stk) rfl y1 (by rw [y2]; rfl) (Vm.classAt_of_findClass y4) (h := h) (xcT_map _ (by rw [hfx.2.2.2.2.2]; exact hz _ y4))
  have hf : ∀ q ∈ locs, A q.base ∧ locs ≠ [] := fun q hq => ⟨hM.2.2.1.2.2 q hq, List.ne_nil_of_mem hq⟩
  have tail : ∀ ls' : Array Slot, W p l e R s m args below meth c (T.setVm vm').heap locs cells slots (xEnd D cl cs ad A H0 N xs (.inl (some (xI d)), σ, c1, 0) s below cells slots) (F0 m h2 ls' []) := fun ls' =>
    lv_iconst hexec hfx.2.1 hd2 hnn (W.wk (W.iret hexec hfx.2.1 (hfx.2.2.2.1.trans hrt) (fun t h1 h2 => ⟨rfl, h1⟩) hf hd3 hfx.2.2.2.2.1) (fun t ht => xs_mq (H := (T.setVm vm').heap) hM hc (fun w hw => by cases hw; trivial) ht))
  have hh : lv_has ls (xm_ml k) [] := ⟨hls, hwf, fun q hq => by cases hq⟩
  have K : W p l e R s m args below meth c (T.setVm vm').heap locs cells slots (xEnd D cl cs ad A H0 N xs (.inl (some (xI d)), σ, c1, 0) s below cells slots) (F0 m h ls [.ref a]) := by
    rcases hd1 with ⟨j', rfl, hd1, rfl⟩ | ⟨hd1, rfl⟩
    · exact lv_astore_n hexec hfx.2.1 hd1 rfl hh hj rfl fun ls' _ => tail ls'
    · exact lv_astore hexec hfx.2.1 hd1 hh hj rfl fun ls' _ => tail ls'
  obtain ⟨t, a1, b1⟩ := K (T.setVm vm') rfl X'
  exact ⟨t, st t a1, b1⟩
theorem xGG.warm (s U : State) (h : xGG D cs ad A H0 N xs s) (hW : s.WarmedH U.vm) (hS : va_S A H0 U.heap []) (hq : ∀ q ∈ xprs, ad q.1 q.2 < U.heap.size) : xGG D cs ad A H0 N xs U := ⟨xG.warm s U h.1 hW hS hq, h.2.warm hW⟩
theorem xclk (hG : xGG D cs ad A H0 N xs s) (hown : s.vm.findClass "LayerFeederLaw" = some m.cls) (hpl : e.platform.magicAccessors = ({} : Platform).magicAccessors) {pos ct : Nat} {nm : String} (h : xm_is pos (.classLink "LayerFeederLaw" ct nm) = true) : ∃ c, s.vm.findClass nm = some c ∧ s.vm.ClassLinks e.platform m.cls ct c :=
  Cond.classLink_spec hown (xm_is_use h hG.1) e.platform hpl
theorem xyes (hG : xGG D cs ad A H0 N xs s) (x : Nat) (hx : x < 4) {th c : ClassId} (h1 : s.vm.findClass (xm_xn x) = some th) (h2 : s.vm.findClass (xm_xn x) = some c) : s.vm.assignable th c = true := by
  obtain ⟨c1, e1, e3⟩ := hG.2.2.2.2.2.1 x hx
  cases h1.symm.trans e1
  cases h2.symm.trans e1
  exact e3
theorem xno {nm nm2 : String} (h : va_Nc nm nm2 s) {th c : ClassId} (h1 : s.vm.findClass nm = some th) (h2 : s.vm.findClass nm2 = some c) : s.vm.assignable th c = false := by
  obtain ⟨c1, c2, e1, e2, e3⟩ := h
  cases h1.symm.trans e1
  cases h2.symm.trans e2
  exact e3
theorem xm_clk0 : xm_is 286 (.classLink "LayerFeederLaw" 13 "java/lang/IllegalStateException") = true := by decide +kernel
theorem xm_clk1 : xm_is 713 (.classLink "LayerFeederLaw" 22 "java/lang/IllegalArgumentException") = true := by decide +kernel
theorem xm_clk2 : xm_is 763 (.classLink "LayerFeederLaw" 34 "java/lang/IndexOutOfBoundsException") = true := by decide +kernel
theorem xm_clk3 : xm_is 844 (.classLink "LayerFeederLaw" 56 "java/util/NoSuchElementException") = true := by decide +kernel
theorem xcat_49_3_0 (hexec : p.tables.exec = Jvm.exec) (R : Room) (s : State) (m : MethodId) (args : Array Value) (below : List Frame) (meth : Method) (c : Code) (T : State) (locs : List Loc) (cells slots : Nat) (ls : Array Slot) (stk : List Value) (σ : xm_M) (c1 : Bool) (a : Addr) (hfx : xFix 49 s m meth c) (hG : xGG D cs ad A H0 N xs s) (X : Stand p l e R s m args below meth c T locs cells slots) (hx : xThr 0 a T) (hls : ls.size = xm_ml 49) (hwf : lv_wf ls) (hM : xMem D cl cs ad A H0 N xs σ T.heap locs) (hc : c1 = true → locs = []) :
    ∃ t, Steps p.tables e below ((T.setTop (F0 m 3 ls stk)).pushFrame (.throwing a)) t ∧ xEnd D cl cs ad A H0 N xs (.inl (some (xI 1)), σ, c1, 0) s below cells slots t := by
  have hpl : e.platform.magicAccessors = ({} : Platform).magicAccessors := by rw [X.admits.platform]
  obtain ⟨k0, f0, l0⟩ := xclk (e := e) hG hfx.1 hpl xm_clk0
  exact xcat_of (k := 49) (x := 0) (h := 11) (h2 := 12) (nn := 1) hexec 2 (Or.inl ⟨2, rfl, by decide +kernel, rfl⟩) (by decide +kernel) (by decide +kernel) (by decide +kernel) rfl (by decide) hfx (fun th hth => Or.inr ⟨rfl, by decide, k0, l0, Or.inr ⟨xyes hG 0 (by decide) hth f0, rfl⟩⟩) X hx hls hwf hM hc
theorem xcat_85_3_0 (hexec : p.tables.exec = Jvm.exec) (R : Room) (s : State) (m : MethodId) (args : Array Value) (below : List Frame) (meth : Method) (c : Code) (T : State) (locs : List Loc) (cells slots : Nat) (ls : Array Slot) (stk : List Value) (σ : xm_M) (c1 : Bool) (a : Addr) (hfx : xFix 85 s m meth c) (hG : xGG D cs ad A H0 N xs s) (X : Stand p l e R s m args below meth c T locs cells slots) (hx : xThr 0 a T) (hls : ls.size = xm_ml 85) (hwf : lv_wf ls) (hM : xMem D cl cs ad A H0 N xs σ T.heap locs) (hc : c1 = true → locs = []) :
    ∃ t, Steps p.tables e below ((T.setTop (F0 m 3 ls stk)).pushFrame (.throwing a)) t ∧ xEnd D cl cs ad A H0 N xs (.inl (some (xI 1)), σ, c1, 0) s below cells slots t := by
  have hpl : e.platform.magicAccessors = ({} : Platform).magicAccessors := by rw [X.admits.platform]
  obtain ⟨k0, f0, l0⟩ := xclk (e := e) hG hfx.1 hpl xm_clk0
  exact xcat_of (k := 85) (x := 0) (h := 11) (h2 := 12) (nn := 1) hexec 2 (Or.inl ⟨2, rfl, by decide +kernel, rfl⟩) (by decide +kernel) (by decide +kernel) (by decide +kernel) rfl (by decide) hfx (fun th hth => Or.inr ⟨rfl, by decide, k0, l0, Or.inr ⟨xyes hG 0 (by decide) hth f0, rfl⟩⟩) X hx hls hwf hM hc
theorem xcat_102_4_1 (hexec : p.tables.exec = Jvm.exec) (R : Room) (s : State) (m : MethodId) (args : Array Value) (below : List Frame) (meth : Method) (c : Code) (T : State) (locs : List Loc) (cells slots : Nat) (ls : Array Slot) (stk : List Value) (σ : xm_M) (c1 : Bool) (a : Addr) (hfx : xFix 102 s m meth c) (hG : xGG D cs ad A H0 N xs s) (X : Stand p l e R s m args below meth c T locs cells slots) (hx : xThr 1 a T) (hls : ls.size = xm_ml 102) (hwf : lv_wf ls) (hM : xMem D cl cs ad A H0 N xs σ T.heap locs) (hc : c1 = true → locs = []) :
    ∃ t, Steps p.tables e below ((T.setTop (F0 m 4 ls stk)).pushFrame (.throwing a)) t ∧ xEnd D cl cs ad A H0 N xs (.inl (some (xI 1)), σ, c1, 0) s below cells slots t := by
  have hpl : e.platform.magicAccessors = ({} : Platform).magicAccessors := by rw [X.admits.platform]
  obtain ⟨k0, f0, l0⟩ := xclk (e := e) hG hfx.1 hpl xm_clk0
  obtain ⟨k1, f1, l1⟩ := xclk (e := e) hG hfx.1 hpl xm_clk1
  exact xcat_of (k := 102) (x := 1) (h := 12) (h2 := 13) (nn := 1) hexec 3 (Or.inl ⟨3, rfl, by decide +kernel, rfl⟩) (by decide +kernel) (by decide +kernel) (by decide +kernel) rfl (by decide) hfx (fun th hth => Or.inr ⟨rfl, by decide, k1, l1, Or.inr ⟨xyes hG 1 (by decide) hth f1, rfl⟩⟩) X hx hls hwf hM hc
theorem xcat_102_4_0 (hexec : p.tables.exec = Jvm.exec) (R : Room) (s : State) (m : MethodId) (args : Array Value) (below : List Frame) (meth : Method) (c : Code) (T : State) (locs : List Loc) (cells slots : Nat) (ls : Array Slot) (stk : List Value) (σ : xm_M) (c1 : Bool) (a : Addr) (hfx : xFix 102 s m meth c) (hG : xGG D cs ad A H0 N xs s) (X : Stand p l e R s m args below meth c T locs cells slots) (hx : xThr 0 a T) (hls : ls.size = xm_ml 102) (hwf : lv_wf ls) (hM : xMem D cl cs ad A H0 N xs σ T.heap locs) (hc : c1 = true → locs = []) :
    ∃ t, Steps p.tables e below ((T.setTop (F0 m 4 ls stk)).pushFrame (.throwing a)) t ∧ xEnd D cl cs ad A H0 N xs (.inl (some (xI 2)), σ, c1, 0) s below cells slots t := by
  have hpl : e.platform.magicAccessors = ({} : Platform).magicAccessors := by rw [X.admits.platform]
  obtain ⟨k0, f0, l0⟩ := xclk (e := e) hG hfx.1 hpl xm_clk0
  obtain ⟨k1, f1, l1⟩ := xclk (e := e) hG hfx.1 hpl xm_clk1
  exact xcat_of (k := 102) (x := 0) (h := 15) (h2 := 16) (nn := 2) hexec 3 (Or.inl ⟨3, rfl, by decide +kernel, rfl⟩) (by decide +kernel) (by decide +kernel) (by decide +kernel) rfl (by decide) hfx (fun th hth => Or.inr ⟨rfl, by decide, k1, l1, Or.inl ⟨xno hG.2.2.1 hth f1, Or.inr ⟨rfl, by decide, k0, l0, Or.inr ⟨xyes hG 0 (by decide) hth f0, rfl⟩⟩⟩⟩) X hx hls hwf hM hc
theorem xcat_106_4_1 (hexec : p.tables.exec = Jvm.exec) (R : Room) (s : State) (m : MethodId) (args : Array Value) (below : List Frame) (meth : Method) (c : Code) (T : State) (locs : List Loc) (cells slots : Nat) (ls : Array Slot) (stk : List Value) (σ : xm_M) (c1 : Bool) (a : Addr) (hfx : xFix 106 s m meth c) (hG : xGG D cs ad A H0 N xs s) (X : Stand p l e R s m args below meth c T locs cells slots) (hx : xThr 1 a T) (hls : ls.size = xm_ml 106) (hwf : lv_wf ls) (hM : xMem D cl cs ad A H0 N xs σ T.heap locs) (hc : c1 = true → locs = []) :
    ∃ t, Steps p.tables e below ((T.setTop (F0 m 4 ls stk)).pushFrame (.throwing a)) t ∧ xEnd D cl cs ad A H0 N xs (.inl (some (xI 1)), σ, c1, 0) s below cells slots t := by
  have hpl : e.platform.magicAccessors = ({} : Platform).magicAccessors := by rw [X.admits.platform]
  obtain ⟨k1, f1, l1⟩ := xclk (e := e) hG hfx.1 hpl xm_clk1
  exact xcat_of (k := 106) (x := 1) (h := 12) (h2 := 13) (nn := 1) hexec 3 (Or.inl ⟨3, rfl, by decide +kernel, rfl⟩) (by decide +kernel) (by decide +kernel) (by decide +kernel) rfl (by decide) hfx (fun th hth => Or.inr ⟨rfl, by decide, k1, l1, Or.inr ⟨xyes hG 1 (by decide) hth f1, rfl⟩⟩) X hx hls hwf hM hc
theorem xcat_109_4_1 (hexec : p.tables.exec = Jvm.exec) (R : Room) (s : State) (m : MethodId) (args : Array Value) (below : List Frame) (meth : Method) (c : Code) (T : State) (locs : List Loc) (cells slots : Nat) (ls : Array Slot) (stk : List Value) (σ : xm_M) (c1 : Bool) (a : Addr) (hfx : xFix 109 s m meth c) (hG : xGG D cs ad A H0 N xs s) (X : Stand p l e R s m args below meth c T locs cells slots) (hx : xThr 1 a T) (hls : ls.size = xm_ml 109) (hwf : lv_wf ls) (hM : xMem D cl cs ad A H0 N xs σ T.heap locs) (hc : c1 = true → locs = []) :
    ∃ t, Steps p.tables e below ((T.setTop (F0 m 4 ls stk)).pushFrame (.throwing a)) t ∧ xEnd D cl cs ad A H0 N xs (.inl (some (xI 1)), σ, c1, 0) s below cells slots t := by
  have hpl : e.platform.magicAccessors = ({} : Platform).magicAccessors := by rw [X.admits.platform]
  obtain ⟨k1, f1, l1⟩ := xclk (e := e) hG hfx.1 hpl xm_clk1
  exact xcat_of (k := 109) (x := 1) (h := 12) (h2 := 13) (nn := 1) hexec 3 (Or.inl ⟨3, rfl, by decide +kernel, rfl⟩) (by decide +kernel) (by decide +kernel) (by decide +kernel) rfl (by decide) hfx (fun th hth => Or.inr ⟨rfl, by decide, k1, l1, Or.inr ⟨xyes hG 1 (by decide) hth f1, rfl⟩⟩) X hx hls hwf hM hc
theorem xcat_114_5_1 (hexec : p.tables.exec = Jvm.exec) (R : Room) (s : State) (m : MethodId) (args : Array Value) (below : List Frame) (meth : Method) (c : Code) (T : State) (locs : List Loc) (cells slots : Nat) (ls : Array Slot) (stk : List Value) (σ : xm_M) (c1 : Bool) (a : Addr) (hfx : xFix 114 s m meth c) (hG : xGG D cs ad A H0 N xs s) (X : Stand p l e R s m args below meth c T locs cells slots) (hx : xThr 1 a T) (hls : ls.size = xm_ml 114) (hwf : lv_wf ls) (hM : xMem D cl cs ad A H0 N xs σ T.heap locs) (hc : c1 = true → locs = []) :
    ∃ t, Steps p.tables e below ((T.setTop (F0 m 5 ls stk)).pushFrame (.throwing a)) t ∧ xEnd D cl cs ad A H0 N xs (.inl (some (xI 1)), σ, c1, 0) s below cells slots t := by
  have hpl : e.platform.magicAccessors = ({} : Platform).magicAccessors := by rw [X.admits.platform]
  obtain ⟨k1, f1, l1⟩ := xclk (e := e) hG hfx.1 hpl xm_clk1
  obtain ⟨k2, f2, l2⟩ := xclk (e := e) hG hfx.1 hpl xm_clk2
  exact xcat_of (k := 114) (x := 1) (h := 13) (h2 := 15) (nn := 1) hexec 4 (Or.inr ⟨by decide +kernel, rfl⟩) (by decide +kernel) (by decide +kernel) (by decide +kernel) rfl (by decide) hfx (fun th hth => Or.inr ⟨rfl, by decide, k1, l1, Or.inr ⟨xyes hG 1 (by decide) hth f1, rfl⟩⟩) X hx hls hwf hM hc
theorem xcat_114_5_2 (hexec : p.tables.exec = Jvm.exec) (R : Room) (s : State) (m : MethodId) (args : Array Value) (below : List Frame) (meth : Method) (c : Code) (T : State) (locs : List Loc) (cells slots : Nat) (ls : Array Slot) (stk : List Value) (σ : xm_M) (c1 : Bool) (a : Addr) (hfx : xFix 114 s m meth c) (hG : xGG D cs ad A H0 N xs s) (X : Stand p l e R s m args below meth c T locs cells slots) (hx : xThr 2 a T) (hls : ls.size = xm_ml 114) (hwf : lv_wf ls) (hM : xMem D cl cs ad A H0 N xs σ T.heap locs) (hc : c1 = true → locs = []) :
    ∃ t, Steps p.tables e below ((T.setTop (F0 m 5 ls stk)).pushFrame (.throwing a)) t ∧ xEnd D cl cs ad A H0 N xs (.inl (some (xI 2)), σ, c1, 0) s below cells slots t := by
  have hpl : e.platform.magicAccessors = ({} : Platform).magicAccessors := by rw [X.admits.platform]
  obtain ⟨k1, f1, l1⟩ := xclk (e := e) hG hfx.1 hpl xm_clk1
  obtain ⟨k2, f2, l2⟩ := xclk (e := e) hG hfx.1 hpl xm_clk2
  exact xcat_of (k := 114) (x := 2) (h := 17) (h2 := 19) (nn := 2) hexec 4 (Or.inr ⟨by decide +kernel, rfl⟩) (by decide +kernel) (by decide +kernel) (by decide +kernel) rfl (by decide) hfx (fun th hth => Or.inr ⟨rfl, by decide, k1, l1, Or.inl ⟨xno hG.2.2.2.1 hth f1, Or.inr ⟨rfl, by decide, k2, l2, Or.inr ⟨xyes hG 2 (by decide) hth f2, rfl⟩⟩⟩⟩) X hx hls hwf hM hc
theorem xcat_120_4_0 (hexec : p.tables.exec = Jvm.exec) (R : Room) (s : State) (m : MethodId) (args : Array Value) (below : List Frame) (meth : Method) (c : Code) (T : State) (locs : List Loc) (cells slots : Nat) (ls : Array Slot) (stk : List Value) (σ : xm_M) (c1 : Bool) (a : Addr) (hfx : xFix 120 s m meth c) (hG : xGG D cs ad A H0 N xs s) (X : Stand p l e R s m args below meth c T locs cells slots) (hx : xThr 0 a T) (hls : ls.size = xm_ml 120) (hwf : lv_wf ls) (hM : xMem D cl cs ad A H0 N xs σ T.heap locs) (hc : c1 = true → locs = []) :
    ∃ t, Steps p.tables e below ((T.setTop (F0 m 4 ls stk)).pushFrame (.throwing a)) t ∧ xEnd D cl cs ad A H0 N xs (.inl (some (xI 1)), σ, c1, 0) s below cells slots t := by
  have hpl : e.platform.magicAccessors = ({} : Platform).magicAccessors := by rw [X.admits.platform]
  obtain ⟨k0, f0, l0⟩ := xclk (e := e) hG hfx.1 hpl xm_clk0
  exact xcat_of (k := 120) (x := 0) (h := 19) (h2 := 20) (nn := 1) hexec 3 (Or.inl ⟨3, rfl, by decide +kernel, rfl⟩) (by decide +kernel) (by decide +kernel) (by decide +kernel) rfl (by decide) hfx (fun th hth => Or.inr ⟨rfl, by decide, k0, l0, Or.inr ⟨xyes hG 0 (by decide) hth f0, rfl⟩⟩) X hx hls hwf hM hc
theorem xcat_123_3_0 (hexec : p.tables.exec = Jvm.exec) (R : Room) (s : State) (m : MethodId) (args : Array Value) (below : List Frame) (meth : Method) (c : Code) (T : State) (locs : List Loc) (cells slots : Nat) (ls : Array Slot) (stk : List Value) (σ : xm_M) (c1 : Bool) (a : Addr) (hfx : xFix 123 s m meth c) (hG : xGG D cs ad A H0 N xs s) (X : Stand p l e R s m args below meth c T locs cells slots) (hx : xThr 0 a T) (hls : ls.size = xm_ml 123) (hwf : lv_wf ls) (hM : xMem D cl cs ad A H0 N xs σ T.heap locs) (hc : c1 = true → locs = []) :
    ∃ t, Steps p.tables e below ((T.setTop (F0 m 3 ls stk)).pushFrame (.throwing a)) t ∧ xEnd D cl cs ad A H0 N xs (.inl (some (xI 1)), σ, c1, 0) s below cells slots t := by
  have hpl : e.platform.magicAccessors = ({} : Platform).magicAccessors := by rw [X.admits.platform]
  obtain ⟨k0, f0, l0⟩ := xclk (e := e) hG hfx.1 hpl xm_clk0
  exact xcat_of (k := 123) (x := 0) (h := 11) (h2 := 12) (nn := 1) hexec 2 (Or.inl ⟨2, rfl, by decide +kernel, rfl⟩) (by decide +kernel) (by decide +kernel) (by decide +kernel) rfl (by decide) hfx (fun th hth => Or.inr ⟨rfl, by decide, k0, l0, Or.inr ⟨xyes hG 0 (by decide) hth f0, rfl⟩⟩) X hx hls hwf hM hc
theorem xcat_126_2_1 (hexec : p.tables.exec = Jvm.exec) (R : Room) (s : State) (m : MethodId) (args : Array Value) (below : List Frame) (meth : Method) (c : Code) (T : State) (locs : List Loc) (cells slots : Nat) (ls : Array Slot) (stk : List Value) (σ : xm_M) (c1 : Bool) (a : Addr) (hfx : xFix 126 s m meth c) (hG : xGG D cs ad A H0 N xs s) (X : Stand p l e R s m args below meth c T locs cells slots) (hx : xThr 1 a T) (hls : ls.size = xm_ml 126) (hwf : lv_wf ls) (hM : xMem D cl cs ad A H0 N xs σ T.heap locs) (hc : c1 = true → locs = []) :
    ∃ t, Steps p.tables e below ((T.setTop (F0 m 2 ls stk)).pushFrame (.throwing a)) t ∧ xEnd D cl cs ad A H0 N xs (.inl (some (xI 1)), σ, c1, 0) s below cells slots t := by
  have hpl : e.platform.magicAccessors = ({} : Platform).magicAccessors := by rw [X.admits.platform]
  obtain ⟨k0, f0, l0⟩ := xclk (e := e) hG hfx.1 hpl xm_clk0
  obtain ⟨k1, f1, l1⟩ := xclk (e := e) hG hfx.1 hpl xm_clk1
  exact xcat_of (k := 126) (x := 1) (h := 8) (h2 := 9) (nn := 1) hexec 2 (Or.inl ⟨2, rfl, by decide +kernel, rfl⟩) (by decide +kernel) (by decide +kernel) (by decide +kernel) rfl (by decide) hfx (fun th hth => Or.inr ⟨rfl, by decide, k1, l1, Or.inr ⟨xyes hG 1 (by decide) hth f1, rfl⟩⟩) X hx hls hwf hM hc
theorem xcat_126_2_0 (hexec : p.tables.exec = Jvm.exec) (R : Room) (s : State) (m : MethodId) (args : Array Value) (below : List Frame) (meth : Method) (c : Code) (T : State) (locs : List Loc) (cells slots : Nat) (ls : Array Slot) (stk : List Value) (σ : xm_M) (c1 : Bool) (a : Addr) (hfx : xFix 126 s m meth c) (hG : xGG D cs ad A H0 N xs s) (X : Stand p l e R s m args below meth c T locs cells slots) (hx : xThr 0 a T) (hls : ls.size = xm_ml 126) (hwf : lv_wf ls) (hM : xMem D cl cs ad A H0 N xs σ T.heap locs) (hc : c1 = true → locs = []) :
    ∃ t, Steps p.tables e below ((T.setTop (F0 m 2 ls stk)).pushFrame (.throwing a)) t ∧ xEnd D cl cs ad A H0 N xs (.inl (some (xI 2)), σ, c1, 0) s below cells slots t := by
  have hpl : e.platform.magicAccessors = ({} : Platform).magicAccessors := by rw [X.admits.platform]
  obtain ⟨k0, f0, l0⟩ := xclk (e := e) hG hfx.1 hpl xm_clk0
  obtain ⟨k1, f1, l1⟩ := xclk (e := e) hG hfx.1 hpl xm_clk1
  exact xcat_of (k := 126) (x := 0) (h := 11) (h2 := 12) (nn := 2) hexec 2 (Or.inl ⟨2, rfl, by decide +kernel, rfl⟩) (by decide +kernel) (by decide +kernel) (by decide +kernel) rfl (by decide) hfx (fun th hth => Or.inr ⟨rfl, by decide, k1, l1, Or.inl ⟨xno hG.2.2.1 hth f1, Or.inr ⟨rfl, by decide, k0, l0, Or.inr ⟨xyes hG 0 (by decide) hth f0, rfl⟩⟩⟩⟩) X hx hls hwf hM hc
theorem xcat_132_1_0 (hexec : p.tables.exec = Jvm.exec) (R : Room) (s : State) (m : MethodId) (args : Array Value) (below : List Frame) (meth : Method) (c : Code) (T : State) (locs : List Loc) (cells slots : Nat) (ls : Array Slot) (stk : List Value) (σ : xm_M) (c1 : Bool) (a : Addr) (hfx : xFix 132 s m meth c) (hG : xGG D cs ad A H0 N xs s) (X : Stand p l e R s m args below meth c T locs cells slots) (hx : xThr 0 a T) (hls : ls.size = xm_ml 132) (hwf : lv_wf ls) (hM : xMem D cl cs ad A H0 N xs σ T.heap locs) (hc : c1 = true → locs = []) :
    ∃ t, Steps p.tables e below ((T.setTop (F0 m 1 ls stk)).pushFrame (.throwing a)) t ∧ xEnd D cl cs ad A H0 N xs (.inl (some (xI 1)), σ, c1, 0) s below cells slots t := by
  have hpl : e.platform.magicAccessors = ({} : Platform).magicAccessors := by rw [X.admits.platform]
  obtain ⟨k0, f0, l0⟩ := xclk (e := e) hG hfx.1 hpl xm_clk0
  exact xcat_of (k := 132) (x := 0) (h := 7) (h2 := 8) (nn := 1) hexec 1 (Or.inl ⟨1, rfl, by decide +kernel, rfl⟩) (by decide +kernel) (by decide +kernel) (by decide +kernel) rfl (by decide) hfx (fun th hth => Or.inr ⟨rfl, by decide, k0, l0, Or.inr ⟨xyes hG 0 (by decide) hth f0, rfl⟩⟩) X hx hls hwf hM hc
theorem xcat_137_1_0 (hexec : p.tables.exec = Jvm.exec) (R : Room) (s : State) (m : MethodId) (args : Array Value) (below : List Frame) (meth : Method) (c : Code) (T : State) (locs : List Loc) (cells slots : Nat) (ls : Array Slot) (stk : List Value) (σ : xm_M) (c1 : Bool) (a : Addr) (hfx : xFix 137 s m meth c) (hG : xGG D cs ad A H0 N xs s) (X : Stand p l e R s m args below meth c T locs cells slots) (hx : xThr 0 a T) (hls : ls.size = xm_ml 137) (hwf : lv_wf ls) (hM : xMem D cl cs ad A H0 N xs σ T.heap locs) (hc : c1 = true → locs = []) :
    ∃ t, Steps p.tables e below ((T.setTop (F0 m 1 ls stk)).pushFrame (.throwing a)) t ∧ xEnd D cl cs ad A H0 N xs (.inl (some (xI 1)), σ, c1, 0) s below cells slots t := by
  have hpl : e.platform.magicAccessors = ({} : Platform).magicAccessors := by rw [X.admits.platform]
  obtain ⟨k0, f0, l0⟩ := xclk (e := e) hG hfx.1 hpl xm_clk0
  exact xcat_of (k := 137) (x := 0) (h := 7) (h2 := 8) (nn := 1) hexec 1 (Or.inl ⟨1, rfl, by decide +kernel, rfl⟩) (by decide +kernel) (by decide +kernel) (by decide +kernel) rfl (by decide) hfx (fun th hth => Or.inr ⟨rfl, by decide, k0, l0, Or.inr ⟨xyes hG 0 (by decide) hth f0, rfl⟩⟩) X hx hls hwf hM hc
theorem xcat_140_3_0 (hexec : p.tables.exec = Jvm.exec) (R : Room) (s : State) (m : MethodId) (args : Array Value) (below : List Frame) (meth : Method) (c : Code) (T : State) (locs : List Loc) (cells slots : Nat) (ls : Array Slot) (stk : List Value) (σ : xm_M) (c1 : Bool) (a : Addr) (hfx : xFix 140 s m meth c) (hG : xGG D cs ad A H0 N xs s) (X : Stand p l e R s m args below meth c T locs cells slots) (hx : xThr 0 a T) (hls : ls.size = xm_ml 140) (hwf : lv_wf ls) (hM : xMem D cl cs ad A H0 N xs σ T.heap locs) (hc : c1 = true → locs = []) :
    ∃ t, Steps p.tables e below ((T.setTop (F0 m 3 ls stk)).pushFrame (.throwing a)) t ∧ xEnd D cl cs ad A H0 N xs (.inl (some (xI 1)), σ, c1, 0) s below cells slots t := by
  have hpl : e.platform.magicAccessors = ({} : Platform).magicAccessors := by rw [X.admits.platform]
  obtain ⟨k0, f0, l0⟩ := xclk (e := e) hG hfx.1 hpl xm_clk0
  obtain ⟨k3, f3, l3⟩ := xclk (e := e) hG hfx.1 hpl xm_clk3
  exact xcat_of (k := 140) (x := 0) (h := 11) (h2 := 12) (nn := 1) hexec 2 (Or.inl ⟨2, rfl, by decide +kernel, rfl⟩) (by decide +kernel) (by decide +kernel) (by decide +kernel) rfl (by decide) hfx (fun th hth => Or.inr ⟨rfl, by decide, k0, l0, Or.inr ⟨xyes hG 0 (by decide) hth f0, rfl⟩⟩) X hx hls hwf hM hc
theorem xcat_140_3_3 (hexec : p.tables.exec = Jvm.exec) (R : Room) (s : State) (m : MethodId) (args : Array Value) (below : List Frame) (meth : Method) (c : Code) (T : State) (locs : List Loc) (cells slots : Nat) (ls : Array Slot) (stk : List Value) (σ : xm_M) (c1 : Bool) (a : Addr) (hfx : xFix 140 s m meth c) (hG : xGG D cs ad A H0 N xs s) (X : Stand p l e R s m args below meth c T locs cells slots) (hx : xThr 3 a T) (hls : ls.size = xm_ml 140) (hwf : lv_wf ls) (hM : xMem D cl cs ad A H0 N xs σ T.heap locs) (hc : c1 = true → locs = []) :
    ∃ t, Steps p.tables e below ((T.setTop (F0 m 3 ls stk)).pushFrame (.throwing a)) t ∧ xEnd D cl cs ad A H0 N xs (.inl (some (xI 2)), σ, c1, 0) s below cells slots t := by
  have hpl : e.platform.magicAccessors = ({} : Platform).magicAccessors := by rw [X.admits.platform]
  obtain ⟨k0, f0, l0⟩ := xclk (e := e) hG hfx.1 hpl xm_clk0
  obtain ⟨k3, f3, l3⟩ := xclk (e := e) hG hfx.1 hpl xm_clk3
  exact xcat_of (k := 140) (x := 3) (h := 14) (h2 := 15) (nn := 2) hexec 2 (Or.inl ⟨2, rfl, by decide +kernel, rfl⟩) (by decide +kernel) (by decide +kernel) (by decide +kernel) rfl (by decide) hfx (fun th hth => Or.inr ⟨rfl, by decide, k0, l0, Or.inl ⟨xno hG.2.2.2.2.1 hth f0, Or.inr ⟨rfl, by decide, k3, l3, Or.inr ⟨xyes hG 3 (by decide) hth f3, rfl⟩⟩⟩⟩) X hx hls hwf hM hc
theorem xcat_143_5_2 (hexec : p.tables.exec = Jvm.exec) (R : Room) (s : State) (m : MethodId) (args : Array Value) (below : List Frame) (meth : Method) (c : Code) (T : State) (locs : List Loc) (cells slots : Nat) (ls : Array Slot) (stk : List Value) (σ : xm_M) (c1 : Bool) (a : Addr) (hfx : xFix 143 s m meth c) (hG : xGG D cs ad A H0 N xs s) (X : Stand p l e R s m args below meth c T locs cells slots) (hx : xThr 2 a T) (hls : ls.size = xm_ml 143) (hwf : lv_wf ls) (hM : xMem D cl cs ad A H0 N xs σ T.heap locs) (hc : c1 = true → locs = []) :
    ∃ t, Steps p.tables e below ((T.setTop (F0 m 5 ls stk)).pushFrame (.throwing a)) t ∧ xEnd D cl cs ad A H0 N xs (.inl (some (xI 1)), σ, c1, 0) s below cells slots t := by
  have hpl : e.platform.magicAccessors = ({} : Platform).magicAccessors := by rw [X.admits.platform]
  obtain ⟨k2, f2, l2⟩ := xclk (e := e) hG hfx.1 hpl xm_clk2
  exact xcat_of (k := 143) (x := 2) (h := 13) (h2 := 15) (nn := 1) hexec 4 (Or.inr ⟨by decide +kernel, rfl⟩) (by decide +kernel) (by decide +kernel) (by decide +kernel) rfl (by decide) hfx (fun th hth => Or.inr ⟨rfl, by decide, k2, l2, Or.inr ⟨xyes hG 2 (by decide) hth f2, rfl⟩⟩) X hx hls hwf hM hc
def xm_HL : List (Nat × Nat × Nat × Int32) := [(49, 3, 0, 1), (85, 3, 0, 1), (102, 4, 1, 1), (102, 4, 0, 2), (106, 4, 1, 1), (109, 4, 1, 1), (114, 5, 1, 1), (114, 5, 2, 2), (120, 4, 0, 1), (123, 3, 0, 1), (126, 2, 1, 1), (126, 2, 0, 2), (132, 1, 0, 1), (137, 1, 0, 1), (140, 3, 0, 1), (140, 3, 3, 2), (143, 5, 2, 1)]
theorem xm_hdl_ok : ((List.range 146).all fun k => (xm_hdl k).all fun q => decide ((k, q) ∈ xm_HL)) = true := by decide +kernel
theorem xm_hf_spec : ∀ (l : List (Nat × Nat × Int32)) {pc x : Nat} {d : Int32}, xm_hf l pc x = some d → (pc, x, d) ∈ l
  | [], pc, x, d, h => by cases h
  | q :: t, pc, x, d, h => by
    rw [xm_hf] at h
    cases hb : Nat.beq q.1 pc && Nat.beq q.2.1 x with
    | true =>
      rw [hb] at h
      simp only [Bool.and_eq_true] at hb
      have e1 := Nat.eq_of_beq_eq_true hb.1
      have e2 := Nat.eq_of_beq_eq_true hb.2
      cases h
      rw [← e1, ← e2]
      exact List.mem_cons_self
    | false =>
      rw [hb] at h
      exact List.mem_cons_of_mem _ (xm_hf_spec t h)
theorem xm_tb_ge {α : Type} {d : α} {l : List (List α)} (h1 : l.length = 13) (h2 : (xm_ix [] l 12).length = 2) {k : Nat} (h : 146 ≤ k) : xm_ix d (xm_ix [] l (k / 12)) (k % 12) = d := by
  by_cases h3 : k < 156
  · rw [show k / 12 = 12 by omega]
    exact xm_ix_ge (by rw [h2]; omega)
  · rw [xm_ix_ge (l := l) (show l.length ≤ k / 12 by rw [h1]; omega)]
    rfl
theorem xm_hd_in {k pc x : Nat} {d : Int32} (h : xm_hd k pc x = some d) : (k, pc, x, d) ∈ xm_HL := by
  have hm := xm_hf_spec _ h
  by_cases hk : k < 146
  · have h2 := List.all_eq_true.mp (List.all_eq_true.mp xm_hdl_ok k (List.mem_range.mpr hk)) _ hm
    simpa using h2
  · have : xm_hdl k = [] := xm_tb_ge rfl rfl (by omega)
    rw [this] at hm
    cases hm
theorem xm_hnh (k : Nat) (h : xm_nh k = true) : xm_et k = [] := by
  by_cases hk : k < 146
  · have : ((List.range 146).all fun k => !xm_nh k || decide (xm_et k = [])) = true := by decide +kernel
    have h2 := List.all_eq_true.mp this k (List.mem_range.mpr hk)
    rw [h] at h2
    simpa using h2
  · have : xm_nh k = false := xm_tb_ge rfl rfl (by omega)
    rw [this] at h
    cases h
theorem xm_hcat (hexec : p.tables.exec = Jvm.exec) (k pc x : Nat) (d : Int32) (R : Room) (s : State) (m : MethodId) (args : Array Value) (below : List Frame) (meth : Method) (c : Code) (T : State) (locs : List Loc) (cells slots : Nat) (ls : Array Slot) (stk : List Value) (σ : xm_M) (c1 : Bool) (a : Addr) (hhd : xm_hd k pc x = some d) (hfx : xFix k s m meth c) (hG : xGG D cs ad A H0 N xs s) (X : Stand p l e R s m args below meth c T locs cells slots) (hx : xThr x a T) (hls : ls.size = xm_ml k) (hwf : lv_wf ls) (hM : xMem D cl cs ad A H0 N xs σ T.heap locs) (hc : c1 = true → locs = []) :
    ∃ t, Steps p.tables e below ((T.setTop (F0 m pc ls stk)).pushFrame (.throwing a)) t ∧ xEnd D cl cs ad A H0 N xs (.inl (some (xI d)), σ, c1, 0) s below cells slots t := by
  have hm := xm_hd_in hhd
  simp only [xm_HL, List.mem_cons, Prod.mk.injEq, List.not_mem_nil, or_false] at hm
  rcases hm with ⟨rfl, rfl, rfl, rfl⟩ | ⟨rfl, rfl, rfl, rfl⟩ | ⟨rfl, rfl, rfl, rfl⟩ | ⟨rfl, rfl, rfl, rfl⟩ | ⟨rfl, rfl, rfl, rfl⟩ | ⟨rfl, rfl, rfl, rfl⟩ | ⟨rfl, rfl, rfl, rfl⟩ | ⟨rfl, rfl, rfl, rfl⟩ | ⟨rfl, rfl, rfl, rfl⟩ | ⟨rfl, rfl, rfl, rfl⟩ | ⟨rfl, rfl, rfl, rfl⟩ | ⟨rfl, rfl, rfl, rfl⟩ | ⟨rfl, rfl, rfl, rfl⟩ | ⟨rfl, rfl, rfl, rfl⟩ | ⟨rfl, rfl, rfl, rfl⟩ | ⟨rfl, rfl, rfl, rfl⟩ | ⟨rfl, rfl, rfl, rfl⟩
  · exact xcat_49_3_0 hexec R s m args below meth c T locs cells slots ls stk σ c1 a hfx hG X hx hls hwf hM hc
  · exact xcat_85_3_0 hexec R s m args below meth c T locs cells slots ls stk σ c1 a hfx hG X hx hls hwf hM hc
  · exact xcat_102_4_1 hexec R s m args below meth c T locs cells slots ls stk σ c1 a hfx hG X hx hls hwf hM hc
  · exact xcat_102_4_0 hexec R s m args below meth c T locs cells slots ls stk σ c1 a hfx hG X hx hls hwf hM hc
  · exact xcat_106_4_1 hexec R s m args below meth c T locs cells slots ls stk σ c1 a hfx hG X hx hls hwf hM hc
  · exact xcat_109_4_1 hexec R s m args below meth c T locs cells slots ls stk σ c1 a hfx hG X hx hls hwf hM hc
  · exact xcat_114_5_1 hexec R s m args below meth c T locs cells slots ls stk σ c1 a hfx hG X hx hls hwf hM hc
  · exact xcat_114_5_2 hexec R s m args below meth c T locs cells slots ls stk σ c1 a hfx hG X hx hls hwf hM hc
  · exact xcat_120_4_0 hexec R s m args below meth c T locs cells slots ls stk σ c1 a hfx hG X hx hls hwf hM hc
  · exact xcat_123_3_0 hexec R s m args below meth c T locs cells slots ls stk σ c1 a hfx hG X hx hls hwf hM hc
  · exact xcat_126_2_1 hexec R s m args below meth c T locs cells slots ls stk σ c1 a hfx hG X hx hls hwf hM hc
  · exact xcat_126_2_0 hexec R s m args below meth c T locs cells slots ls stk σ c1 a hfx hG X hx hls hwf hM hc
  · exact xcat_132_1_0 hexec R s m args below meth c T locs cells slots ls stk σ c1 a hfx hG X hx hls hwf hM hc
  · exact xcat_137_1_0 hexec R s m args below meth c T locs cells slots ls stk σ c1 a hfx hG X hx hls hwf hM hc
  · exact xcat_140_3_0 hexec R s m args below meth c T locs cells slots ls stk σ c1 a hfx hG X hx hls hwf hM hc
  · exact xcat_140_3_3 hexec R s m args below meth c T locs cells slots ls stk σ c1 a hfx hG X hx hls hwf hM hc
  · exact xcat_143_5_2 hexec R s m args below meth c T locs cells slots ls stk σ c1 a hfx hG X hx hls hwf hM hc
end XC
