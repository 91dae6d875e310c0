-- returns, calls, whole runs (own work)
def xm_rets (k : Nat) (i : Jvm.ClassFile.Instr) : Prop := match i with
  | .ireturn => (xm_rs k = 0 → xm_rt k = some .int) ∧ (xm_rs k = 1 → xm_rt k = some .boolean) ∧ (xm_rs k = 2 → xm_rt k = some .char)
  | .lreturn => xm_rt k = some .long
  | .areturn => ∃ rt, xm_rt k = some rt ∧ ((∃ n, rt = .object n) ∨ ∃ t, rt = .array t)
  | .return_ => xm_rt k = none
  | _ => True
-- what is known of a method that is called
def xmm (a : Nat) (s : State) : Prop := xMf (xm_mn a) (xm_code a) (xm_ml a) (xm_rt a) (xm_et a) s ∧ plainFor (xm_mn a) = true ∧ (xm_mn a).cls ≠ "java/lang/invoke/MethodHandle" ∧ (xm_mn a).cls ≠ "java/lang/invoke/VarHandle"
-- what is known of a call's place
def xcs (k : Nat) (i : Jvm.ClassFile.Instr) (a b : Nat) (cl : List vw_C) (s : State) : Prop := match i with
  | .invokestatic idx => a < 200 → xmm a s ∧ xlink (xm_mn k).cls idx (xm_mn a) s ∧ va_Nw (.static (xm_mn a)) s ∧ va_Nw (.initialized (xm_mn a).cls) s ∧ (parseMethodDescriptor (xm_mn a).desc).map (fun d => d.parameters.length) = some b ∧ xm_fr a + 1 ≤ xm_fr k ∧ 8 + (xm_ml a + 11) + xm_lo a ≤ xm_lo k
  | .invokevirtual idx => a < 200 → xmm a s ∧ xlink (xm_mn k).cls idx (xm_mn a) s ∧ va_Nw (.instanceMethod (xm_mn a)) s ∧ va_Nw (.selects (xm_mn a).cls (xm_mn a) (xm_mn a)) s ∧ (parseMethodDescriptor (xm_mn a).desc).map (fun d => d.parameters.length + 1) = some b ∧ xm_fr a + 1 ≤ xm_fr k ∧ 8 + (xm_ml a + 11) + xm_lo a ≤ xm_lo k ∧
      xm_nth xm_ak (xm_rk a) = 0 ∧ ∃ (T : u_T) (n : Nat), cl[xm_nth xm_cis (xm_rk a)]? = some ((xm_mn a).cls, T, n)
  | _ => True
section X7
variable {p : Program} {l : Launch} {e : Env} {R : Room} {s : State} {m : MethodId} {args : Array Value} {below : List Frame} {meth : Method} {c : Code} {H : Heap} {locs : List Loc} {cells slots : Nat}
variable {D : va_G} {cl : List vw_C} {cs : Nat → ClassId} {ad : Nat → Nat → Nat} {A : Nat → Prop} {H0 : Heap} {N : Nat} {xs : Nat → Int32} {k nL pc n a b : Nat} {ca : Int32} {da : Int64} {i : Jvm.ClassFile.Instr} {ls : Array Slot} {L : xm_L} {st : List xm_V} {σ : xm_M} {c0 : Bool}
theorem xs_mq {r : Option xm_V} (hM : xMem D cl cs ad A H0 N xs σ H locs) (hc : c0 = true → locs = []) (hv : ∀ w, r = some w → xokv w) {t : State}
    (h : MQ below (fun _ _ o t => o = .returned (r.map (xv ad)) ∧ t.heap = H) args s cells slots (fun q => A q ∧ locs ≠ []) t) : xEnd D cl cs ad A H0 N xs (.inl r, σ, c0, 0) s below cells slots t := by
  obtain ⟨o, h1, h2, ⟨h3, h4⟩, Lk, ⟨-, h5, h6⟩, h7⟩ := h
  refine ⟨o, Lk, h1, h2, h5, h6, ?_, fun hz => ?_, h3, hv⟩
  · rw [h4]
    exact ⟨hM.1, hM.2.1, ⟨hM.2.2.1.1, hM.2.2.1.2.1, fun q hq => (h7 q hq).1⟩, hM.2.2.2⟩
  · have hl := hc hz
    cases Lk with
    | nil => rfl
    | cons q r => exact absurd hl (h7 q List.mem_cons_self).2
theorem xs_ret (hexec : p.tables.exec = Jvm.exec) (hfx : xFix k s m meth c) (hrt : xm_rets k i) (hck : xm_ck nL pc i n a b ca da = true) (hd : decode (xm_code k) pc = .ok (i, n)) {v : Option xm_V}
    (hx : xm_ex (xm_rs k) i pc (pc + n) a b ca da L st σ c0 = oR true v) (hR : xRel D cl cs ad A H0 N xs nL (pc, L, st, σ, c0) ls H locs) :
    W p l e R s m args below meth c H locs cells slots (xEnd D cl cs ad A H0 N xs (.inl v, σ, c0, 0) s below cells slots) (F0 m pc ls (st.map (xv ad))) := by
  have hf : ∀ q ∈ locs, A q.base ∧ locs ≠ [] := fun q hq => ⟨hR.2.2.2.1.2.2.1.2.2 q hq, List.ne_nil_of_mem hq⟩
  rcases ki4 (ki_of hx rfl (by decide)) with rfl | rfl | rfl | rfl
  · skip
    simp only [xm_ck, decide_eq_true_eq] at hck
    subst hck
    simp only [xm_ex] at hx
    unfold xm_iret at hx
    split at hx
    · rename_i z
      split at hx
      · rename_i hrs
        simp only [Option.some.injEq, Sum.inr.injEq, Sum.inl.injEq, Prod.mk.injEq] at hx
        obtain ⟨-, rfl⟩ := hx
        exact W.wk (W.iret hexec hfx.2.1 (hfx.2.2.2.1.trans (hrt.1 hrs)) (fun t h1 h2 => ⟨rfl, h1⟩) hf hd hfx.2.2.2.2.1) (fun t h => xs_mq hR.2.2.2.1 hR.2.2.2.2 (fun w hw => by cases hw; trivial) h)
      · rename_i hrs
        simp only [Option.some.injEq, Sum.inr.injEq, Sum.inl.injEq, Prod.mk.injEq] at hx
        obtain ⟨hb1, rfl⟩ := hx
        exact W.wk (W.zret (ty := .boolean) hexec hfx.2.1 (hfx.2.2.2.1.trans (hrt.2.1 hrs)) (by rcases xm_isb_spec hb1 with h | h <;> (subst h; rfl)) (fun t h1 h2 => ⟨rfl, h1⟩) hf hd hfx.2.2.2.2.1) (fun t h => xs_mq hR.2.2.2.1 hR.2.2.2.2 (fun w hw => by cases hw; trivial) h)
      · rename_i hrs
        simp only [Option.some.injEq, Sum.inr.injEq, Sum.inl.injEq, Prod.mk.injEq] at hx
        obtain ⟨hb1, rfl⟩ := hx
        exact W.wk (W.zret (ty := .char) hexec hfx.2.1 (hfx.2.2.2.1.trans (hrt.2.2 hrs)) (congrArg Value.int (eq_of_beq hb1)) (fun t h1 h2 => ⟨rfl, h1⟩) hf hd hfx.2.2.2.2.1) (fun t h => xs_mq hR.2.2.2.1 hR.2.2.2.2 (fun w hw => by cases hw; trivial) h)
      · cases hx
    · cases hx
  · skip
    simp only [xm_ck, decide_eq_true_eq] at hck
    subst hck
    simp only [xm_ex] at hx
    unfold xm_lret at hx
    split at hx
    · simp only [Option.some.injEq, Sum.inr.injEq, Sum.inl.injEq, Prod.mk.injEq] at hx
      obtain ⟨-, rfl⟩ := hx
      exact W.wk (W.lret hexec hfx.2.1 (hfx.2.2.2.1.trans hrt) (fun t h1 h2 => ⟨rfl, h1⟩) hf hd hfx.2.2.2.2.1) (fun t h => xs_mq hR.2.2.2.1 hR.2.2.2.2 (fun w hw => by cases hw; trivial) h)
    · cases hx
  · skip
    simp only [xm_ck, decide_eq_true_eq] at hck
    subst hck
    simp only [xm_ex] at hx
    unfold xm_aret at hx
    split at hx
    · simp only [Option.some.injEq, Sum.inr.injEq, Sum.inl.injEq, Prod.mk.injEq] at hx
      obtain ⟨-, rfl⟩ := hx
      obtain ⟨rt, hr1, hr2⟩ := hrt
      have h3 := (xoks_cons _ _).mp hR.2.2.1
      exact W.wk (W.aret hexec hfx.2.1 (hfx.2.2.2.1.trans hr1) hr2 (Or.inr ⟨_, rfl⟩) (fun t h1 h2 => ⟨rfl, h1⟩) hf hd hfx.2.2.2.2.1) (fun t h => xs_mq hR.2.2.2.1 hR.2.2.2.2 (fun w hw => by cases hw; exact h3.1) h)
    · cases hx
  · skip
    simp only [xm_ck, decide_eq_true_eq] at hck
    subst hck
    simp only [xm_ex] at hx
    unfold xm_vret at hx
    split at hx
    · simp only [Option.some.injEq, Sum.inr.injEq, Sum.inl.injEq, Prod.mk.injEq] at hx
      obtain ⟨-, rfl⟩ := hx
      exact W.wk (W.vret hexec hfx.2.1 (hfx.2.2.2.1.trans hrt) (fun t h1 h2 => ⟨rfl, h1⟩) hf hd hfx.2.2.2.2.1) (fun t h => xs_mq hR.2.2.2.1 hR.2.2.2.2 (fun w hw => by cases hw) h)
    · cases hx
-- the callee's part of a call
theorem xs_in {G : State → Prop} (hGw : ∀ s U : State, G s → s.WarmedH U.vm → va_S A H0 U.heap [] → (∀ q ∈ xprs, ad q.1 q.2 < U.heap.size) → G U) {T : State} (X : Stand p l e R s m args below meth c T locs cells slots) (hM : xMem D cl cs ad A H0 N xs σ T.heap locs) {ig : Jvm.ClassFile.Instr} (hdg : decode c.code pc = .ok (ig, 3)) (hls : ls.size = c.maxLocals)
    {mm : Nat} {mk : MethodId} {methk : Method} {ck : Code} (hn : s.methodNamed? (xm_mn mm) = some mk) (hmk : s.vm.method? mk = some methk) (hck : methk.code = some ck) (h1 : ck.code = xm_code mm) (h2 : ck.maxLocals = xm_ml mm) (h3 : ck.exceptionTable.toList.map (fun h => (h.startPc, h.endPc, h.handlerPc, h.catchType)) = xm_et mm) (h4 : methk.sig.returnType = xm_rt mm) (h5 : methk.locks = false)
    (hpl : plainFor (xm_mn mm) = true) (hG : G s) {as r : List xm_V} (has : xoks as) (hwa : xm_wt as ≤ xm_ml mm) (hwr : xm_wt r ≤ 8) {r1 : xm_Re} (hfr : xm_fr mm + 1 ≤ R.frames) (hlo : 8 + (xm_ml mm + 11) + xm_lo mm ≤ R.locals) (hc : cells + r1.2.2.2 ≤ R.cells) (hs : slots + 6 * r1.2.2.2 ≤ R.slots)
    (ih : ∀ (R : Room) (s : State) (m : MethodId) (args : Array Value) (below : List Frame) (meth : Method) (c : Code) (H : Heap) (locs : List Loc) (cells slots : Nat) (ls : Array Slot), xFix mm s m meth c → G s → xm_fr mm ≤ R.frames → xm_lo mm ≤ R.locals → cells + r1.2.2.2 ≤ R.cells → slots + 6 * r1.2.2.2 ≤ R.slots →
      xRel D cl cs ad A H0 N xs (xm_ml mm) (xm_en mm as σ) ls H locs → W p l e R s m args below meth c H locs cells slots (xEnd D cl cs ad A H0 N xs r1 s below cells slots) (F0 m (xm_en mm as σ).1 ls ((xm_en mm as σ).2.2.1.map (xv ad)))) :
    ∃ t1, Steps p.tables e below (doInvoke e (T.setTop (F0 m pc ls (r.map (xv ad)))) [] mk (as.map (xv ad)).toArray).1 t1 ∧
      xEnd D cl cs ad A H0 N xs r1 (T.calling (F0 m pc ls (r.map (xv ad))) mk (as.map (xv ad)).toArray) (.java (F0 m pc ls (r.map (xv ad))) :: below) 0 0 t1 := by
  have hwl := xm_wt_len ad as
  have hwr' := (xm_wt_len ad r).2
  refine xin X (g := F0 m pc ls (r.map (xv ad))) rfl hls hdg hn hmk hck h5 hpl (R' := { frames := xm_fr mm, cells := r1.2.2.2, slots := 6 * r1.2.2.2, locals := xm_lo mm }) hfr ?_ hc hs (as.map (xv ad)) ?_
  · show 2 * 0 + ((r.map (xv ad)).map fun v => v.category).sum + (ck.maxLocals + 11) + xm_lo mm ≤ R.locals
    rw [hwr', h2]
    omega
  · rw [h2, lg_entry_eq]
    have hent := lv_entry (as.map (xv ad)) (n := xm_ml mm) (by rw [hwl.1]; exact hwa)
    refine ih _ (T.calling _ mk _) mk _ _ methk ck T.heap [] 0 0 _ ⟨?_, h1, h2, h4, h5, h3⟩ ?_ (Nat.le_refl _) (Nat.le_refl _) (by simp) (by simp) ⟨⟨hent.1, hent.2.1, xm_pad_len _ _, fun j v hv => ?_⟩, xokl_pad (xokl_pl has), trivial, ⟨hM.1, hM.2.1, ⟨hM.2.2.1.1, hM.2.2.1.2.1, fun q hq => by cases hq⟩, hM.2.2.2⟩, fun _ => rfl⟩
    · show T.vm.findClass _ = _
      rw [X.warmed.alike.findClass]
      exact findClass_of_methodNamed hn
    · refine hGw s _ hG X.warmed ⟨hM.2.2.1.1, hM.2.2.1.2.1, fun q hq => by cases hq⟩ fun q hq => ?_
      obtain ⟨i, -, hi⟩ := xw_get (cs := cs) (ad := ad) (σ := σ) (k := q.1) (j := q.2) hq
      exact (hM.1 i _ hi).lt
    · have h6 := xm_pl_get ad as j 0 v (xm_pad_get _ _ _ _ hv)
      rw [Nat.zero_add] at h6
      exact hent.2.2 _ h6
end X7
