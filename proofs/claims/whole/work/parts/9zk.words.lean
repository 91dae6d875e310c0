-- Words at hand, and rows for constructors (own work; the contracts are written by gen/k.py)
def xN (U : State) : Prop := (∀ w ∈ lw_tbl, xgw w = true → va_Nw w U) ∧ va_AO "LayerFeeder$Block" U
theorem xN.is {U : State} (h : xN U) {pos : Nat} {w : Jvm.Cond} (hw : xm_is pos w = true) : va_Nw w U := by
  simp only [xm_is, Bool.and_eq_true, decide_eq_true_eq] at hw
  exact h.1 w (List.mem_of_getElem? hw.1) hw.2
theorem xN.use {U : State} (h : xN U) {args : Array Value} {pos : Nat} {w : Jvm.Cond} (hw : xm_is pos w = true) (hg : goodWord w = true := by rfl) : w.before args U = true := word_at (State.WarmedH.refl U) (good_of_word hg) (h.is hw)
theorem xN.warm {s U : State} (hW : s.WarmedH U.vm) (h : xN s) : xN U := ⟨fun w hw hg => xgw_warm hg hW (h.1 w hw hg), h.2.moved hW.alike⟩
theorem xN.cf {s : State} (h : xN s) (b : Nat) (hb : b < 19) (h0 : xm_nth xm_ak b = 0) (args : Array Value) : ∀ w ∈ u_ws (xm_cT b).1 (xm_cT b).2.1 (xm_cT b).2.2, w.before args s = true := by
  intro w hwm
  have hw := xm_wb_all b hb h0
  unfold xm_wb at hw
  have h3 := List.all_eq_true.mp hw w hwm
  simp only [Bool.and_eq_true, decide_eq_true_eq] at h3
  have h4 := h.1 w h3.1 h3.2
  have hon : w.onTables = true := by
    obtain ⟨q, -, rfl⟩ := List.mem_map.mp hwm
    unfold u_lay
    split <;> rfl
  exact va_Nw.use hon h4
theorem k_one {args : Array Value} {s : State} {w : Jvm.Cond} (h : w.before args s = true) : ∀ x ∈ [w], x.before args s = true := by
  intro x hx
  rw [List.mem_singleton.mp hx]; exact h
theorem k_good (w : Jvm.Cond) (h : goodWord w = true) : GoodIn [w] [w] := by
  intro x hx
  rw [List.mem_singleton.mp hx]
  exact ⟨List.mem_singleton.mpr rfl, good_of_word h⟩
abbrev kPre (D : va_G) (cs : Nat → ClassId) (av : List Value) (sz : Nat) (ws : va_W) : Array Value → State → Prop := va_Pc av (fun U => U.heap.size = sz ∧ va_P D xm_cl ws U.heap ∧ va_K D xm_cl (xtys cs) U ∧ va_D (fun _ => True) ws ∧ xN U)
abbrev kPost (D : va_G) (ws : va_W) (sz : Nat) (f : (Nat → Nat) → va_W) : Array Value → State → Outcome → State → Prop := va_Qv (fun _ : Nat → Nat => True) (fun u t => va_P D xm_cl (f u) t.heap ∧ va_D (va_A ws sz) (f u)) (va_A ws sz)
theorem kPre_blind {D : va_G} {cs : Nat → ClassId} {av : List Value} {sz : Nat} {ws : va_W} : FrameBlind (kPre D cs av sz ws) := fun a U g mk q => by
  obtain ⟨q0, q1, qP, qK, qD, qN⟩ := q
  exact ⟨q0, q1, qP, va_K.moved (u := U) (U := U.calling g mk a) (Vm.Alike.refl U.vm) qK, qD, xN.warm (s := U) (U := U.calling g mk a) (State.WarmedH.refl U) qN⟩
theorem kPre_at {D : va_G} {cs : Nat → ClassId} {av : List Value} {ws : va_W} {s U : State} {H : Heap} {A : Nat → Prop} (hU : U.heap = H) (hW : s.WarmedH U.vm) (hP : va_P D xm_cl ws H) (hK : va_K D xm_cl (xtys cs) s) (hD : va_D A ws) (hN : xN s) : kPre D cs av H.size ws av.toArray U :=
  ⟨rfl, by rw [hU], by rw [hU]; exact hP, va_K.moved hW.alike hK, hD.weaken (fun _ _ _ _ => trivial), hN.warm hW⟩
section KR
variable {p : Program} {l : Launch} {e : Env} {R : Room} {s : State} {m : MethodId} {args : Array Value} {below : List Frame} {meth : Method} {c : Code} {H : Heap} {locs : List Loc} {cells slots : Nat} {Q : State → Prop}
variable {D : va_G} {cs : Nat → ClassId} {A : Nat → Prop} {H0 : Heap} {ws : va_W} {pc : Nat} {ls : Array Slot} {rest : List Value} {cc : ByteArray}
theorem k_newa (hexec : p.tables.exec = Jvm.exec) (hb : c.code = cc) {atype : ArrayType} (harr : (Cond.arrayClass (newarray.typeOf atype)).before args s = true) {ty : FieldType} (hty : newarray.typeOf atype = ty) {e0 t0 : Nat} (ht : (xtys cs)[t0]? = some (cs e0, ty)) (h3 : ty = .int ∨ ty = .char ∨ ty = .long) (hK : va_K D xm_cl (xtys cs) s) (hP : va_P D xm_cl ws H) (hD : va_D A ws) (hS : va_S A H0 H locs) (hA : ∀ q, H0.size ≤ q → A q)
    {n : Int32} {N' : Nat} {a0 : vp_A} (ha : ∀ cA : ClassId, vp_cell cA a0 = arrV cA N' (fun _ => defaultValue ty)) (hn : ¬ n < 0) (hN : n.toNatClampNeg = N') (hbytes : N' * componentBytes ty ≤ 536870912) (hcells : cells + 1 ≤ R.cells) (hslots : slots + N' ≤ R.slots) (hdg : decode cc pc = .ok (.newarray atype, 2))
    (kk : ∀ (q : Nat) (H1 : Heap), va_P D xm_cl (ws ++ [(q, .inl (cs e0, a0))]) H1 → va_D A (ws ++ [(q, .inl (cs e0, a0))]) → va_S A H0 H1 locs →
      W p l e R s m args below meth c H1 locs (cells + 1) (slots + N') Q (F0 m (pc + 2) ls (.ref q :: rest))) : W p l e R s m args below meth c H locs cells slots Q (F0 m pc ls (.int n :: rest)) := by
  refine va_newa hexec hb harr hty hK hP hD hS hA ha hn hN hbytes hcells hslots hdg (fun q cA H1 hK1 hP1 hD1 hS1 => ?_)
  have h1 := (hK1.2 4 (cA, ty) rfl).2
  have h2 := (hK.2 t0 _ ht).2
  have e1 : cA = cs e0 := by
    rcases h3 with h | h | h
    · subst h; exact Option.some.inj (h1.symm.trans h2)
    · subst h; exact Option.some.inj (h1.symm.trans h2)
    · subst h; exact Option.some.inj (h1.symm.trans h2)
  rw [e1] at hP1 hD1
  exact kk q H1 hP1 hD1 hS1
theorem k_newq (hexec : p.tables.exec = Jvm.exec) (hb : c.code = cc) {own : String} {index : Nat} (hown : s.vm.findClass own = some m.cls) (hclink : (Cond.classLink own index "LayerFeeder$Block").before args s = true) (hN0 : xN s) (hK : va_K D xm_cl (xtys cs) s) (hP : va_P D xm_cl ws H) (hD : va_D A ws) (hS : va_S A H0 H locs) (hA : ∀ q, H0.size ≤ q → A q)
    {n : Int32} {N' : Nat} (hn : ¬ n < 0) (hN : n.toNatClampNeg = N') (hbytes : N' * 4 ≤ 536870912) (hcells : cells + 1 ≤ R.cells) (hslots : slots + N' ≤ R.slots) (hdg : decode cc pc = .ok (.anewarray index, 3))
    (kk : ∀ (q : Nat) (H1 : Heap), va_P D xm_cl (ws ++ [(q, .inl (cs 4, N', .inr (.inr (.inr (.inr (fun _ => none))))))]) H1 → va_D A (ws ++ [(q, .inl (cs 4, N', .inr (.inr (.inr (.inr (fun _ => none))))))]) → va_S A H0 H1 locs →
      W p l e R s m args below meth c H1 locs (cells + 1) (slots + N') Q (F0 m (pc + 3) ls (.ref q :: rest))) : W p l e R s m args below meth c H locs cells slots Q (F0 m pc ls (.int n :: rest)) := by
  refine va_newq hexec hb hown hclink hN0.2 hK hP hD hS hA hn hN hbytes hcells hslots hdg (fun q cA H1 hK1 hP1 hD1 hS1 => ?_)
  obtain ⟨kA, comp, a1, a2, a3, a4⟩ := (hK1.2 4 (cA, .object "LayerFeeder$Block") rfl).2
  obtain ⟨kB, comp2, b1, b2, b3, b4⟩ := (hK.2 3 (cs 4, .object "LayerFeeder$Block") rfl).2
  have e1 : cA = cs 4 := Option.some.inj (a4.symm.trans b4)
  rw [e1] at hP1 hD1
  exact kk q H1 hP1 hD1 hS1
end KR
abbrev ky0 : Nat → FieldType := fun k => (parseFieldDescriptor (xm_T0 k).2.2.1).getD .int
theorem kt0 : ∀ k, k < 16 → parseFieldDescriptor (xm_T0 k).2.2.1 = some (ky0 k) := by decide +kernel
theorem kn0 : ∀ a, a < 16 → ∀ b, b < 16 → a ≠ b → (xm_T0 a).2.1 ≠ (xm_T0 b).2.1 := by decide +kernel
theorem kwc0 {s : State} {args : Array Value} (h : xN s) : ∀ w ∈ u_ws "LayerFeeder" xm_T0 16, w.before args s = true := h.cf 0 (by decide) rfl args
abbrev ky1 : Nat → FieldType := fun k => (parseFieldDescriptor (xm_T1 k).2.2.1).getD .int
theorem kt1 : ∀ k, k < 2 → parseFieldDescriptor (xm_T1 k).2.2.1 = some (ky1 k) := by decide +kernel
theorem kn1 : ∀ a, a < 2 → ∀ b, b < 2 → a ≠ b → (xm_T1 a).2.1 ≠ (xm_T1 b).2.1 := by decide +kernel
theorem kwc1 {s : State} {args : Array Value} (h : xN s) : ∀ w ∈ u_ws "LayerFeeder$Text" xm_T1 2, w.before args s = true := h.cf 1 (by decide) rfl args
abbrev ky2 : Nat → FieldType := fun k => (parseFieldDescriptor (xm_T2 k).2.2.1).getD .int
theorem kt2 : ∀ k, k < 3 → parseFieldDescriptor (xm_T2 k).2.2.1 = some (ky2 k) := by decide +kernel
theorem kn2 : ∀ a, a < 3 → ∀ b, b < 3 → a ≠ b → (xm_T2 a).2.1 ≠ (xm_T2 b).2.1 := by decide +kernel
theorem kwc2 {s : State} {args : Array Value} (h : xN s) : ∀ w ∈ u_ws "LayerFeeder$Frame" xm_T2 3, w.before args s = true := h.cf 3 (by decide) rfl args
abbrev ky3 : Nat → FieldType := fun k => (parseFieldDescriptor (xm_T3 k).2.2.1).getD .int
theorem kt3 : ∀ k, k < 3 → parseFieldDescriptor (xm_T3 k).2.2.1 = some (ky3 k) := by decide +kernel
theorem kn3 : ∀ a, a < 3 → ∀ b, b < 3 → a ≠ b → (xm_T3 a).2.1 ≠ (xm_T3 b).2.1 := by decide +kernel
theorem kwc3 {s : State} {args : Array Value} (h : xN s) : ∀ w ∈ u_ws "LayerFeeder$Command" xm_T3 3, w.before args s = true := h.cf 6 (by decide) rfl args
abbrev ky4 : Nat → FieldType := fun k => (parseFieldDescriptor (xm_T4 k).2.2.1).getD .int
theorem kt4 : ∀ k, k < 7 → parseFieldDescriptor (xm_T4 k).2.2.1 = some (ky4 k) := by decide +kernel
theorem kn4 : ∀ a, a < 7 → ∀ b, b < 7 → a ≠ b → (xm_T4 a).2.1 ≠ (xm_T4 b).2.1 := by decide +kernel
theorem kwc4 {s : State} {args : Array Value} (h : xN s) : ∀ w ∈ u_ws "LayerFeeder$Row" xm_T4 7, w.before args s = true := h.cf 8 (by decide) rfl args
abbrev ky5 : Nat → FieldType := fun k => (parseFieldDescriptor (xm_T5 k).2.2.1).getD .int
theorem kt5 : ∀ k, k < 5 → parseFieldDescriptor (xm_T5 k).2.2.1 = some (ky5 k) := by decide +kernel
theorem kn5 : ∀ a, a < 5 → ∀ b, b < 5 → a ≠ b → (xm_T5 a).2.1 ≠ (xm_T5 b).2.1 := by decide +kernel
theorem kwc5 {s : State} {args : Array Value} (h : xN s) : ∀ w ∈ u_ws "LayerFeeder$Block" xm_T5 5, w.before args s = true := h.cf 10 (by decide) rfl args
abbrev ky6 : Nat → FieldType := fun k => (parseFieldDescriptor (xm_T6 k).2.2.1).getD .int
theorem kt6 : ∀ k, k < 2 → parseFieldDescriptor (xm_T6 k).2.2.1 = some (ky6 k) := by decide +kernel
theorem kn6 : ∀ a, a < 2 → ∀ b, b < 2 → a ≠ b → (xm_T6 a).2.1 ≠ (xm_T6 b).2.1 := by decide +kernel
theorem kwc6 {s : State} {args : Array Value} (h : xN s) : ∀ w ∈ u_ws "LayerFeeder$Slots" xm_T6 2, w.before args s = true := h.cf 12 (by decide) rfl args
abbrev ky7 : Nat → FieldType := fun k => (parseFieldDescriptor (xm_T7 k).2.2.1).getD .int
theorem kt7 : ∀ k, k < 32 → parseFieldDescriptor (xm_T7 k).2.2.1 = some (ky7 k) := by decide +kernel
theorem kn7 : ∀ a, a < 32 → ∀ b, b < 32 → a ≠ b → (xm_T7 a).2.1 ≠ (xm_T7 b).2.1 := by decide +kernel
theorem kwc7 {s : State} {args : Array Value} (h : xN s) : ∀ w ∈ u_ws "LayerFeederModel" xm_T7 32, w.before args s = true := h.cf 18 (by decide) rfl args
theorem kw_49 : xm_is 49 (.initialized "LayerFeeder$Text") = true := by decide +kernel
theorem kw_50 : xm_is 50 (.initialized "LayerFeeder$Frame") = true := by decide +kernel
theorem kw_51 : xm_is 51 (.initialized "LayerFeeder$Command") = true := by decide +kernel
theorem kw_52 : xm_is 52 (.initialized "LayerFeeder$Slots") = true := by decide +kernel
theorem kw_53 : xm_is 53 (.initialized "LayerFeeder$Row") = true := by decide +kernel
theorem kw_54 : xm_is 54 (.initialized "LayerFeeder$Block") = true := by decide +kernel
theorem kw_75 : xm_is 75 (.methodLink "LayerFeeder" 1 ⟨"java/lang/Object", "<init>", "()V"⟩) = true := by decide +kernel
theorem kw_76 : xm_is 76 (.instanceMethod ⟨"java/lang/Object", "<init>", "()V"⟩) = true := by decide +kernel
theorem kw_77 : xm_is 77 (.code ⟨"java/lang/Object", "<init>", "()V"⟩ object_method_1_code 1 none) = true := by decide +kernel
theorem kw_78 : xm_is 78 (.classLink "LayerFeeder" 7 "LayerFeeder$Text") = true := by decide +kernel
theorem kw_79 : xm_is 79 (.instantiable "LayerFeeder$Text" 2) = true := by decide +kernel
theorem kw_80 : xm_is 80 (.methodLinkNest "LayerFeeder" 9 ⟨"LayerFeeder$Text", "<init>", "()V"⟩ "LayerFeeder") = true := by decide +kernel
theorem kw_81 : xm_is 81 (.instanceMethod ⟨"LayerFeeder$Text", "<init>", "()V"⟩) = true := by decide +kernel
theorem kw_82 : xm_is 82 (.code ⟨"LayerFeeder$Text", "<init>", "()V"⟩ prog_7_method_1_code 1 none) = true := by decide +kernel
theorem kw_83 : xm_is 83 (.methodLink "LayerFeeder$Text" 1 ⟨"java/lang/Object", "<init>", "()V"⟩) = true := by decide +kernel
theorem kw_84 : xm_is 84 (.fieldLink "LayerFeeder$Text" 9 "LayerFeeder$Text" "characters" "[C") = true := by decide +kernel
theorem kw_85 : xm_is 85 (.fieldLink "LayerFeeder$Text" 13 "LayerFeeder$Text" "length" "I") = true := by decide +kernel
theorem kw_91 : xm_is 91 (.arrayClass .char) = true := by decide +kernel
theorem kw_92 : xm_is 92 (.classLink "LayerFeeder" 16 "LayerFeeder$Frame") = true := by decide +kernel
theorem kw_93 : xm_is 93 (.instantiable "LayerFeeder$Frame" 3) = true := by decide +kernel
theorem kw_94 : xm_is 94 (.methodLinkNest "LayerFeeder" 18 ⟨"LayerFeeder$Frame", "<init>", "()V"⟩ "LayerFeeder") = true := by decide +kernel
theorem kw_95 : xm_is 95 (.instanceMethod ⟨"LayerFeeder$Frame", "<init>", "()V"⟩) = true := by decide +kernel
theorem kw_96 : xm_is 96 (.code ⟨"LayerFeeder$Frame", "<init>", "()V"⟩ prog_4_method_1_code 1 none) = true := by decide +kernel
theorem kw_97 : xm_is 97 (.methodLink "LayerFeeder$Frame" 3 ⟨"java/lang/Object", "<init>", "()V"⟩) = true := by decide +kernel
theorem kw_98 : xm_is 98 (.fieldLink "LayerFeeder$Frame" 11 "LayerFeeder$Frame" "letters" "[C") = true := by decide +kernel
theorem kw_100 : xm_is 100 (.fieldLink "LayerFeeder$Frame" 15 "LayerFeeder$Frame" "values" "[I") = true := by decide +kernel
theorem kw_102 : xm_is 102 (.fieldLink "LayerFeeder$Frame" 19 "LayerFeeder$Frame" "count" "I") = true := by decide +kernel
theorem kw_111 : xm_is 111 (.arrayClass .int) = true := by decide +kernel
theorem kw_112 : xm_is 112 (.classLink "LayerFeeder" 23 "LayerFeeder$Command") = true := by decide +kernel
theorem kw_113 : xm_is 113 (.instantiable "LayerFeeder$Command" 3) = true := by decide +kernel
theorem kw_114 : xm_is 114 (.methodLinkNest "LayerFeeder" 25 ⟨"LayerFeeder$Command", "<init>", "()V"⟩ "LayerFeeder") = true := by decide +kernel
theorem kw_115 : xm_is 115 (.instanceMethod ⟨"LayerFeeder$Command", "<init>", "()V"⟩) = true := by decide +kernel
theorem kw_116 : xm_is 116 (.code ⟨"LayerFeeder$Command", "<init>", "()V"⟩ prog_3_method_1_code 1 none) = true := by decide +kernel
theorem kw_117 : xm_is 117 (.methodLink "LayerFeeder$Command" 3 ⟨"java/lang/Object", "<init>", "()V"⟩) = true := by decide +kernel
theorem kw_118 : xm_is 118 (.fieldLink "LayerFeeder$Command" 11 "LayerFeeder$Command" "values" "[I") = true := by decide +kernel
theorem kw_119 : xm_is 119 (.fieldLink "LayerFeeder$Command" 15 "LayerFeeder$Command" "toldLetters" "I") = true := by decide +kernel
theorem kw_120 : xm_is 120 (.fieldLink "LayerFeeder$Command" 19 "LayerFeeder$Command" "code" "I") = true := by decide +kernel
theorem kw_129 : xm_is 129 (.classLink "LayerFeeder" 30 "LayerFeeder$Slots") = true := by decide +kernel
theorem kw_130 : xm_is 130 (.instantiable "LayerFeeder$Slots" 2) = true := by decide +kernel
theorem kw_131 : xm_is 131 (.methodLinkNest "LayerFeeder" 32 ⟨"LayerFeeder$Slots", "<init>", "()V"⟩ "LayerFeeder") = true := by decide +kernel
theorem kw_132 : xm_is 132 (.instanceMethod ⟨"LayerFeeder$Slots", "<init>", "()V"⟩) = true := by decide +kernel
theorem kw_133 : xm_is 133 (.code ⟨"LayerFeeder$Slots", "<init>", "()V"⟩ prog_6_method_1_code 1 none) = true := by decide +kernel
theorem kw_134 : xm_is 134 (.methodLink "LayerFeeder$Slots" 3 ⟨"java/lang/Object", "<init>", "()V"⟩) = true := by decide +kernel
theorem kw_135 : xm_is 135 (.fieldLink "LayerFeeder$Slots" 11 "LayerFeeder$Slots" "numbers" "[I") = true := by decide +kernel
theorem kw_136 : xm_is 136 (.fieldLink "LayerFeeder$Slots" 15 "LayerFeeder$Slots" "blocksEnded" "I") = true := by decide +kernel
theorem kw_142 : xm_is 142 (.classLink "LayerFeeder" 73 "LayerFeeder$Row") = true := by decide +kernel
theorem kw_143 : xm_is 143 (.instantiable "LayerFeeder$Row" 7) = true := by decide +kernel
theorem kw_144 : xm_is 144 (.methodLink "LayerFeeder" 75 ⟨"LayerFeeder$Row", "<init>", "(I)V"⟩) = true := by decide +kernel
theorem kw_145 : xm_is 145 (.instanceMethod ⟨"LayerFeeder$Row", "<init>", "(I)V"⟩) = true := by decide +kernel
theorem kw_146 : xm_is 146 (.code ⟨"LayerFeeder$Row", "<init>", "(I)V"⟩ prog_5_method_1_code 3 none) = true := by decide +kernel
theorem kw_147 : xm_is 147 (.methodLink "LayerFeeder$Row" 1 ⟨"java/lang/Object", "<init>", "()V"⟩) = true := by decide +kernel
theorem kw_148 : xm_is 148 (.classLink "LayerFeeder$Row" 9 "LayerFeeder$Block") = true := by decide +kernel
theorem kw_150 : xm_is 150 (.instantiable "LayerFeeder$Block" 5) = true := by decide +kernel
theorem kw_151 : xm_is 151 (.methodLinkNest "LayerFeeder$Row" 35 ⟨"LayerFeeder$Block", "<init>", "()V"⟩ "LayerFeeder") = true := by decide +kernel
theorem kw_152 : xm_is 152 (.instanceMethod ⟨"LayerFeeder$Block", "<init>", "()V"⟩) = true := by decide +kernel
theorem kw_153 : xm_is 153 (.code ⟨"LayerFeeder$Block", "<init>", "()V"⟩ prog_2_method_1_code 1 none) = true := by decide +kernel
theorem kw_154 : xm_is 154 (.methodLink "LayerFeeder$Block" 3 ⟨"java/lang/Object", "<init>", "()V"⟩) = true := by decide +kernel
theorem kw_155 : xm_is 155 (.fieldLink "LayerFeeder$Block" 9 "LayerFeeder$Block" "steps" "[I") = true := by decide +kernel
theorem kw_156 : xm_is 156 (.fieldLink "LayerFeeder$Block" 15 "LayerFeeder$Block" "length" "I") = true := by decide +kernel
theorem kw_159 : xm_is 159 (.fieldLink "LayerFeeder$Block" 19 "LayerFeeder$Block" "top" "I") = true := by decide +kernel
theorem kw_162 : xm_is 162 (.fieldLink "LayerFeeder$Block" 22 "LayerFeeder$Block" "entry" "I") = true := by decide +kernel
theorem kw_165 : xm_is 165 (.fieldLink "LayerFeeder$Block" 25 "LayerFeeder$Block" "exit" "I") = true := by decide +kernel
theorem kw_178 : xm_is 178 (.fieldLink "LayerFeeder$Row" 11 "LayerFeeder$Row" "blocks" "[LLayerFeeder$Block;") = true := by decide +kernel
theorem kw_179 : xm_is 179 (.fieldLink "LayerFeeder$Row" 32 "LayerFeeder$Row" "acceleration" "I") = true := by decide +kernel
theorem kw_180 : xm_is 180 (.fieldLink "LayerFeeder$Row" 15 "LayerFeeder$Row" "first" "I") = true := by decide +kernel
theorem kw_181 : xm_is 181 (.fieldLink "LayerFeeder$Row" 19 "LayerFeeder$Row" "count" "I") = true := by decide +kernel
theorem kw_183 : xm_is 183 (.fieldLink "LayerFeeder$Row" 22 "LayerFeeder$Row" "atWork" "Z") = true := by decide +kernel
theorem kw_185 : xm_is 185 (.fieldLink "LayerFeeder$Row" 26 "LayerFeeder$Row" "stepsMade" "I") = true := by decide +kernel
theorem kw_187 : xm_is 187 (.fieldLink "LayerFeeder$Row" 29 "LayerFeeder$Row" "ticksToEvent" "I") = true := by decide +kernel
theorem kw_203 : xm_is 203 (.fieldLink "LayerFeeder" 10 "LayerFeeder" "text" "LLayerFeeder$Text;") = true := by decide +kernel
theorem kw_204 : xm_is 204 (.fieldLink "LayerFeeder" 19 "LayerFeeder" "frame" "LLayerFeeder$Frame;") = true := by decide +kernel
theorem kw_205 : xm_is 205 (.fieldLink "LayerFeeder" 26 "LayerFeeder" "command" "LLayerFeeder$Command;") = true := by decide +kernel
theorem kw_206 : xm_is 206 (.fieldLink "LayerFeeder" 78 "LayerFeeder" "row" "LLayerFeeder$Row;") = true := by decide +kernel
theorem kw_207 : xm_is 207 (.fieldLink "LayerFeeder" 33 "LayerFeeder" "slots" "LLayerFeeder$Slots;") = true := by decide +kernel
theorem kw_208 : xm_is 208 (.fieldLink "LayerFeeder" 37 "LayerFeeder" "reached" "[I") = true := by decide +kernel
theorem kw_209 : xm_is 209 (.fieldLink "LayerFeeder" 41 "LayerFeeder" "ordered" "[I") = true := by decide +kernel
theorem kw_210 : xm_is 210 (.fieldLink "LayerFeeder" 44 "LayerFeeder" "origin" "[I") = true := by decide +kernel
theorem kw_211 : xm_is 211 (.fieldLink "LayerFeeder" 47 "LayerFeeder" "target" "[I") = true := by decide +kernel
theorem kw_212 : xm_is 212 (.fieldLink "LayerFeeder" 50 "LayerFeeder" "powered" "Z") = true := by decide +kernel
theorem kw_213 : xm_is 213 (.fieldLink "LayerFeeder" 54 "LayerFeeder" "lost" "Z") = true := by decide +kernel
theorem kw_214 : xm_is 214 (.fieldLink "LayerFeeder" 57 "LayerFeeder" "holding" "Z") = true := by decide +kernel
theorem kw_215 : xm_is 215 (.fieldLink "LayerFeeder" 60 "LayerFeeder" "differences" "Z") = true := by decide +kernel
theorem kw_216 : xm_is 216 (.fieldLink "LayerFeeder" 63 "LayerFeeder" "speed" "I") = true := by decide +kernel
theorem kw_217 : xm_is 217 (.fieldLink "LayerFeeder" 67 "LayerFeeder" "nextNumber" "I") = true := by decide +kernel
theorem kw_218 : xm_is 218 (.fieldLink "LayerFeeder" 70 "LayerFeeder" "cutAfter" "I") = true := by decide +kernel
theorem kw_880 : xm_is 880 (.methodLink "LayerFeederModel" 1 ⟨"java/lang/Object", "<init>", "()V"⟩) = true := by decide +kernel
theorem kw_881 : xm_is 881 (.fieldLink "LayerFeederModel" 54 "LayerFeederModel" "a" "I") = true := by decide +kernel
theorem kw_884 : xm_is 884 (.fieldLink "LayerFeederModel" 7 "LayerFeederModel" "text" "[C") = true := by decide +kernel
theorem kw_886 : xm_is 886 (.fieldLink "LayerFeederModel" 13 "LayerFeederModel" "letter" "[C") = true := by decide +kernel
theorem kw_887 : xm_is 887 (.fieldLink "LayerFeederModel" 16 "LayerFeederModel" "value" "[I") = true := by decide +kernel
theorem kw_891 : xm_is 891 (.fieldLink "LayerFeederModel" 20 "LayerFeederModel" "speed" "I") = true := by decide +kernel
theorem kw_892 : xm_is 892 (.fieldLink "LayerFeederModel" 24 "LayerFeederModel" "zero" "[I") = true := by decide +kernel
theorem kw_893 : xm_is 893 (.fieldLink "LayerFeederModel" 27 "LayerFeederModel" "place" "[I") = true := by decide +kernel
theorem kw_894 : xm_is 894 (.fieldLink "LayerFeederModel" 30 "LayerFeederModel" "goal" "[I") = true := by decide +kernel
theorem kw_895 : xm_is 895 (.fieldLink "LayerFeederModel" 33 "LayerFeederModel" "aim" "[I") = true := by decide +kernel
theorem kw_897 : xm_is 897 (.fieldLink "LayerFeederModel" 36 "LayerFeederModel" "by" "[I") = true := by decide +kernel
theorem kw_898 : xm_is 898 (.fieldLink "LayerFeederModel" 39 "LayerFeederModel" "fast" "[I") = true := by decide +kernel
theorem kw_899 : xm_is 899 (.fieldLink "LayerFeederModel" 42 "LayerFeederModel" "pause" "[I") = true := by decide +kernel
theorem kw_903 : xm_is 903 (.fieldLink "LayerFeederModel" 45 "LayerFeederModel" "from" "[I") = true := by decide +kernel
theorem kw_909 : xm_is 909 (.fieldLink "LayerFeederModel" 48 "LayerFeederModel" "cut" "I") = true := by decide +kernel
theorem kw_911 : xm_is 911 (.fieldLink "LayerFeederModel" 51 "LayerFeederModel" "slots" "[I") = true := by decide +kernel
