-- the same, where the law's own frame knows less than its callees (own work)
section X7
variable {p : Program} {l : Launch} {e : Env} {R : Room} {s : State} {m : MethodId} {args : Array Value} {below : List Frame} {meth : Method} {c : Code} {H : Heap} {locs : List Loc} {cells slots : Nat}
variable {D : va_G} {cl : List vw_C} {cs : Nat → ClassId} {ad : Nat → Nat → Nat} {A : Nat → Prop} {H0 : Heap} {N : Nat} {xs : Nat → Int32} {k nL pc n a b : Nat} {ca : Int32} {da : Int64} {i : Jvm.ClassFile.Instr} {ls : Array Slot} {L : xm_L} {st : List xm_V} {σ : xm_M} {c0 : Bool}
theorem xs_inK {Gc Gk : State → Prop} (hGw : ∀ s U : State, Gc s → s.WarmedH U.vm → va_S A H0 U.heap [] → (∀ q ∈ xprs, ad q.1 q.2 < U.heap.size) → Gk U) {T : State} (X : Stand p l e R s m args below meth c T locs cells slots) (hM : xMem D cl cs ad A H0 N xs σ T.heap locs) {ig : Jvm.ClassFile.Instr} (hdg : decode c.code pc = .ok (ig, 3)) (hls : ls.size = c.maxLocals)
    {mm : Nat} {mk : MethodId} {methk : Method} {ck : Code} (hn : s.methodNamed? (xm_mn mm) = some mk) (hmk : s.vm.method? mk = some methk) (hck : methk.code = some ck) (h1 : ck.code = xm_code mm) (h2 : ck.maxLocals = xm_ml mm) (h3 : ck.exceptionTable.toList.map (fun h => (h.startPc, h.endPc, h.handlerPc, h.catchType)) = xm_et mm) (h4 : methk.sig.returnType = xm_rt mm) (h5 : methk.locks = false)
    (hpl : plainFor (xm_mn mm) = true) (hG : Gc s) {as r : List xm_V} (has : xoks as) (hwa : xm_wt as ≤ xm_ml mm) (hwr : xm_wt r ≤ 8) {r1 : xm_Re} (hfr : xm_fr mm + 1 ≤ R.frames) (hlo : 8 + (xm_ml mm + 11) + xm_lo mm ≤ R.locals) (hc : cells + r1.2.2.2 ≤ R.cells) (hs : slots + 6 * r1.2.2.2 ≤ R.slots)
    (ih : ∀ (R : Room) (s : State) (m : MethodId) (args : Array Value) (below : List Frame) (meth : Method) (c : Code) (H : Heap) (locs : List Loc) (cells slots : Nat) (ls : Array Slot), xFix mm s m meth c → Gk s → xm_fr mm ≤ R.frames → xm_lo mm ≤ R.locals → cells + r1.2.2.2 ≤ R.cells → slots + 6 * r1.2.2.2 ≤ R.slots →
      xRel D cl cs ad A H0 N xs (xm_ml mm) (xm_en mm as σ) ls H locs → W p l e R s m args below meth c H locs cells slots (xEnd D cl cs ad A H0 N xs r1 s below cells slots) (F0 m (xm_en mm as σ).1 ls ((xm_en mm as σ).2.2.1.map (xv ad)))) :
    ∃ t1, Steps p.tables e below (doInvoke e (T.setTop (F0 m pc ls (r.map (xv ad)))) [] mk (as.map (xv ad)).toArray).1 t1 ∧
      xEnd D cl cs ad A H0 N xs r1 (T.calling (F0 m pc ls (r.map (xv ad))) mk (as.map (xv ad)).toArray) (.java (F0 m pc ls (r.map (xv ad))) :: below) 0 0 t1 := by
  have hwl := xm_wt_len ad as
  have hwr' := (xm_wt_len ad r).2
  refine xin X (g := F0 m pc ls (r.map (xv ad))) rfl hls hdg hn hmk hck h5 hpl (R' := { frames := xm_fr mm, cells := r1.2.2.2, slots := 6 * r1.2.2.2, locals := xm_lo mm }) hfr ?_ hc hs (as.map (xv ad)) ?_
  · show 2 * 0 + ((r.map (xv ad)).map fun v => v.category).sum + (ck.maxLocals + 11) + xm_lo mm ≤ R.locals
    rw [hwr', h2]
    omega
  · rw [h2, lg_entry_eq]
    have hent := lv_entry (as.map (xv ad)) (n := xm_ml mm) (by rw [hwl.1]; exact hwa)
    refine ih _ (T.calling _ mk _) mk _ _ methk ck T.heap [] 0 0 _ ⟨?_, h1, h2, h4, h5, h3⟩ ?_ (Nat.le_refl _) (Nat.le_refl _) (by simp) (by simp) ⟨⟨hent.1, hent.2.1, xm_pad_len _ _, fun j v hv => ?_⟩, xokl_pad (xokl_pl has), trivial, ⟨hM.1, hM.2.1, ⟨hM.2.2.1.1, hM.2.2.1.2.1, fun q hq => by cases hq⟩, hM.2.2.2⟩, fun _ => rfl⟩
    · show T.vm.findClass _ = _
      rw [X.warmed.alike.findClass]
      exact findClass_of_methodNamed hn
    · refine hGw s _ hG X.warmed ⟨hM.2.2.1.1, hM.2.2.1.2.1, fun q hq => by cases hq⟩ fun q hq => ?_
      obtain ⟨i, -, hi⟩ := xw_get (cs := cs) (ad := ad) (σ := σ) (k := q.1) (j := q.2) hq
      exact (hM.1 i _ hi).lt
    · have h6 := xm_pl_get ad as j 0 v (xm_pad_get _ _ _ _ hv)
      rw [Nat.zero_add] at h6
      exact hent.2.2 _ h6
end X7
theorem xs_outK {p : Program} {l : Launch} {e : Env} {R : Room} {s : State} {m : MethodId} {args : Array Value} {below : List Frame} {meth : Method} {c : Code} {locs : List Loc} {cells slots : Nat} {D : va_G} {cl : List vw_C} {cs : Nat → ClassId} {ad : Nat → Nat → Nat} {A : Nat → Prop} {H0 : Heap} {N : Nat} {xs : Nat → Int32} {G : Nat → State → Prop}
    {n k pc : Nat} {L : xm_L} {as rs : List xm_V} {σ : xm_M} {c0 : Bool} {r1 r : xm_Re} {ls : Array Slot} {T t1 : State} {mk : MethodId} {ig : Jvm.ClassFile.Instr} {H : Heap}
    (hnh : ∀ k, xm_nh k = true → xm_et k = [])
    (hcat : ∀ (k pc x : Nat) (d : Int32) (R : Room) (s : State) (m : MethodId) (args : Array Value) (below : List Frame) (meth : Method) (c : Code) (T : State) (locs : List Loc) (cells slots : Nat) (ls : Array Slot) (stk : List Value) (σ : xm_M) (c1 : Bool) (a : Addr), xm_hd k pc x = some d → xFix k s m meth c → G k s → Stand p l e R s m args below meth c T locs cells slots → xThr x a T → ls.size = xm_ml k → lv_wf ls → xMem D cl cs ad A H0 N xs σ T.heap locs → (c1 = true → locs = []) →
      ∃ t, Steps p.tables e below ((T.setTop (F0 m pc ls stk)).pushFrame (.throwing a)) t ∧ xEnd D cl cs ad A H0 N xs (.inl (some (xI d)), σ, c1, 0) s below cells slots t)
    (ih : ∀ (k : Nat) (st : xm_S) (r : xm_Re), xm_run n k st = some r → ∀ (R : Room) (s : State) (m : MethodId) (args : Array Value) (below : List Frame) (meth : Method) (c : Code) (H : Heap) (locs : List Loc) (cells slots : Nat) (ls : Array Slot), xFix k s m meth c → G k s → xm_fr k ≤ R.frames → xm_lo k ≤ R.locals → cells + r.2.2.2 ≤ R.cells → slots + 6 * r.2.2.2 ≤ R.slots →
      xRel D cl cs ad A H0 N xs (xm_ml k) st ls H locs → W p l e R s m args below meth c H locs cells slots (xEnd D cl cs ad A H0 N xs r s below cells slots) (F0 m st.1 ls (st.2.2.1.map (xv ad))))
    (hfx : xFix k s m meth c) (hG : G k s) (hfr : xm_fr k ≤ R.frames) (hlo : xm_lo k ≤ R.locals) (hc : cells + r.2.2.2 ≤ R.cells) (hs : slots + 6 * r.2.2.2 ≤ R.slots) (hR : xRel D cl cs ad A H0 N xs (xm_ml k) (pc, L, rs, σ, c0) ls H locs)
    (X : Stand p l e R s m args below meth c T locs cells slots) (hdg : decode c.code pc = .ok (ig, 3)) (hE : xEnd D cl cs ad A H0 N xs r1 (T.calling (F0 m pc ls (rs.map (xv ad))) mk (as.map (xv ad)).toArray) (.java (F0 m pc ls (rs.map (xv ad))) :: below) 0 0 t1)
    (h : xm_bk k pc r1 (pc + 3, L, rs, σ, c0) (fun t => xm_run n k t) = some r) : ∃ t, Steps p.tables e below t1 t ∧ xEnd D cl cs ad A H0 N xs r s below cells slots t := by
  obtain ⟨o, Lk, g1, g2, g3, g4, g5, g6, g7⟩ := hE
  obtain ⟨rv, σ', c', e'⟩ := r1
  dsimp only at g4 g5 g6 g7
  rw [Nat.zero_add, Nat.zero_add] at g4
  have hcl : (c0 && c') = true → locs ++ Lk = [] := fun hz => by
    simp only [Bool.and_eq_true] at hz
    rw [hR.2.2.2.2 hz.1, g6 hz.2]
    rfl
  have hSl : va_S A H0 t1.heap (locs ++ Lk) := ⟨g5.2.2.1.1, g5.2.2.1.2.1, fun q hq => by
    rcases List.mem_append.mp hq with hq | hq
    · exact hR.2.2.2.1.2.2.1.2.2 q hq
    · exact g5.2.2.1.2.2 q hq⟩
  have hMe : xMem D cl cs ad A H0 N xs σ' t1.heap (locs ++ Lk) := ⟨g5.1, g5.2.1, hSl, g5.2.2.2⟩
  cases rv with
  | inl v =>
    obtain ⟨rfl, hok⟩ := g7
    obtain ⟨T', X', -, -, ht⟩ := X.outOf (g := F0 m pc ls (rs.map (xv ad))) rfl hdg g2 g3 g4
    have hh : t1.heap = T'.heap := by rw [ht]; rfl
    rw [hh] at hMe
    simp only [xm_bk] at h
    cases hr2 : xm_run n k (pc + 3, L, v.toList ++ rs, σ', c0 && c') with
    | none => rw [hr2] at h; cases h
    | some q2 =>
      rw [hr2] at h
      simp only [xm_add, Option.some.injEq] at h
      subst h
      dsimp only at hc hs
      have hst : xoks (v.toList ++ rs) := by
        cases v with
        | none => exact hR.2.2.1
        | some w => exact (xoks_cons _ _).mpr ⟨hok w rfl, hR.2.2.1⟩
      obtain ⟨t, a1, b1⟩ := ih k _ q2 hr2 R s m args below meth c T'.heap (locs ++ Lk) (cells + e') (slots + 6 * e') ls hfx hG hfr hlo (by omega) (by omega) ⟨hR.1, hR.2.1, hst, hMe, hcl⟩ T' rfl X'
      refine ⟨t, ?_, xEnd.add b1⟩
      rw [ht]
      cases v with
      | none => exact a1
      | some w => exact a1
  | inr x =>
    obtain ⟨a, rfl, hx⟩ := g7
    obtain ⟨T', X', -, -, ht⟩ := X.outOfThrown (g := F0 m pc ls (rs.map (xv ad))) rfl g2 g3 g4
    have hh : t1.heap = T'.heap := by rw [ht]; rfl
    have hv : t1.vm = T'.vm := by rw [ht]; rfl
    rw [hh] at hMe
    have hx' : xThr x a T' := by
      obtain ⟨cell, y1, y2, y3⟩ := hx
      exact ⟨cell, by rw [← hh]; exact y1, y2, by rw [← hv]; exact y3⟩
    simp only [xm_bk] at h
    cases hhd : xm_hd k pc x with
    | some d =>
      rw [hhd] at h
      simp only [Option.some.injEq] at h
      subst h
      obtain ⟨t, a1, b1⟩ := hcat k pc x d R s m args below meth c T' (locs ++ Lk) (cells + e') (slots + 6 * e') ls (rs.map (xv ad)) σ' (c0 && c') a hhd hfx hG X' hx' hR.1.1 hR.1.2.1 hMe hcl
      exact ⟨t, by rw [ht]; exact a1, xEnd.add b1⟩
    | none =>
      rw [hhd] at h
      dsimp only at h
      cases hz : (c0 && c') && xm_nh k with
      | false => rw [hz] at h; cases h
      | true =>
        rw [hz] at h
        simp only [cond_true, Option.some.injEq] at h
        subst h
        have hz1 := (Bool.and_eq_true _ _).mp hz
        obtain ⟨t, a1, b1⟩ := xs_thrown (k := k) (cells := cells) (slots := slots) (ec := e') X' (g := F0 m pc ls (rs.map (xv ad))) rfl rfl rfl hfx (hnh k hz1.2) hMe (hcl hz1.1) hx'
        exact ⟨t, by rw [ht]; exact a1, b1⟩

section X8
variable {p : Program} {l : Launch} {e : Env} {D : va_G} {cl : List vw_C} {cs : Nat → ClassId} {ad : Nat → Nat → Nat} {A : Nat → Prop} {H0 : Heap} {N : Nat} {xs : Nat → Int32} {G : Nat → State → Prop}
theorem xsndK (hexec : p.tables.exec = Jvm.exec) (hGw : ∀ (k k1 : Nat) (s U : State), G k s → s.WarmedH U.vm → va_S A H0 U.heap [] → (∀ q ∈ xprs, ad q.1 q.2 < U.heap.size) → G k1 U) (hGK : ∀ k s, G k s → va_K D cl (xtys cs) s) (hGc : ∀ k s, G k s → xcf cl s) (hGX : ∀ k s, G k s → va_X (ad 32 0) N xs s H0) (hbl : ad 32 0 < H0.size) (hbA : ¬ A (ad 32 0))
    (hrow : ∀ (k pc : Nat) (r : xm_Row), xm_row k pc = some r → decode (xm_code k) pc = .ok (r.2.1, r.2.2.1) ∧ xm_ck (xm_ml k) pc r.2.1 r.2.2.1 r.2.2.2.1 r.2.2.2.2.1 r.2.2.2.2.2.1 r.2.2.2.2.2.2 = true ∧ xm_rets k r.2.1 ∧ (∀ v, r.2.1 = .invokestatic v → 200 ≤ r.2.2.2.1 → 1 ≤ xm_fr k ∧ nativeFrameWords "java/lang/System" "arraycopy" 5 + 11 ≤ xm_lo k))
    (hlks : ∀ (k pc : Nat) (r : xm_Row) (s : State), xm_row k pc = some r → G k s → xlk ad (xm_mn k).cls cl s r.2.1 r.2.2.2.1 r.2.2.2.2.1 r.2.2.2.2.2.1 r.2.2.2.2.2.2 ∧ xcs k r.2.1 r.2.2.2.1 r.2.2.2.2.1 cl s)
    (hnh : ∀ k, xm_nh k = true → xm_et k = [])
    (hstr : ∀ (k pc v : Nat) (r : xm_Row) (R : Room) (s : State) (m : MethodId) (args : Array Value) (below : List Frame) (meth : Method) (c : Code) (H : Heap) (locs : List Loc) (cells slots : Nat) (ls : Array Slot) (L : xm_L) (st : List xm_V) (σ : xm_M) (c0 : Bool) (t : xm_S) (Q : State → Prop), xm_row k pc = some r → r.2.1 = .invokevirtual v → 200 ≤ r.2.2.2.1 → xFix k s m meth c → G k s → xm_fr k ≤ R.frames → xm_lo k ≤ R.locals → cells ≤ R.cells → slots ≤ R.slots →
      xRel D cl cs ad A H0 N xs (xm_ml k) (pc, L, st, σ, c0) ls H locs → xm_gd (xm_str r.2.2.2.1 (pc + 3) L st σ c0) = some t → (xRel D cl cs ad A H0 N xs (xm_ml k) t ls H locs → W p l e R s m args below meth c H locs cells slots Q (F0 m t.1 ls (t.2.2.1.map (xv ad)))) → W p l e R s m args below meth c H locs cells slots Q (F0 m pc ls (st.map (xv ad))))
    (hthr : ∀ (k pc v : Nat) (r : xm_Row) (R : Room) (s : State) (m : MethodId) (args : Array Value) (below : List Frame) (meth : Method) (c : Code) (H : Heap) (cells slots : Nat) (ls : Array Slot) (L : xm_L) (σ : xm_M), xm_row k pc = some r → r.2.1 = .new v → xFix k s m meth c → G k s → xm_fr k ≤ R.frames → xm_lo k ≤ R.locals → cells + 1 ≤ R.cells → slots + 6 ≤ R.slots →
      xRel D cl cs ad A H0 N xs (xm_ml k) (pc, L, [], σ, true) ls H [] → W p l e R s m args below meth c H [] cells slots (xEnd D cl cs ad A H0 N xs (.inr r.2.2.2.1, σ, true, 1) s below cells slots) (F0 m pc ls []))
    (hcat : ∀ (k pc x : Nat) (d : Int32) (R : Room) (s : State) (m : MethodId) (args : Array Value) (below : List Frame) (meth : Method) (c : Code) (T : State) (locs : List Loc) (cells slots : Nat) (ls : Array Slot) (stk : List Value) (σ : xm_M) (c1 : Bool) (a : Addr), xm_hd k pc x = some d → xFix k s m meth c → G k s → Stand p l e R s m args below meth c T locs cells slots → xThr x a T → ls.size = xm_ml k → lv_wf ls → xMem D cl cs ad A H0 N xs σ T.heap locs → (c1 = true → locs = []) →
      ∃ t, Steps p.tables e below ((T.setTop (F0 m pc ls stk)).pushFrame (.throwing a)) t ∧ xEnd D cl cs ad A H0 N xs (.inl (some (xI d)), σ, c1, 0) s below cells slots t) :
    ∀ (n k : Nat) (st : xm_S) (r : xm_Re), xm_run n k st = some r → ∀ (R : Room) (s : State) (m : MethodId) (args : Array Value) (below : List Frame) (meth : Method) (c : Code) (H : Heap) (locs : List Loc) (cells slots : Nat) (ls : Array Slot), xFix k s m meth c → G k s → xm_fr k ≤ R.frames → xm_lo k ≤ R.locals → cells + r.2.2.2 ≤ R.cells → slots + 6 * r.2.2.2 ≤ R.slots →
      xRel D cl cs ad A H0 N xs (xm_ml k) st ls H locs → W p l e R s m args below meth c H locs cells slots (xEnd D cl cs ad A H0 N xs r s below cells slots) (F0 m st.1 ls (st.2.2.1.map (xv ad))) := by
  intro n
  induction n with
  | zero => intro k st r h; cases h
  | succ n ih =>
    intro k st r h R s m args below meth c H locs cells slots ls hfx hG hfr hlo hc hs hR
    obtain ⟨pc, L, stk, σ, c0⟩ := st
    rw [xm_run] at h
    cases hst : xm_step k (pc, L, stk, σ, c0) with
    | none => rw [hst] at h; cases h
    | some o =>
      rw [hst] at h
      simp only [xm_step, xm_stp] at hst
      cases hrw : xm_row k pc with
      | none => simp only [hrw] at hst; cases hst
      | some q =>
        simp only [hrw] at hst
        obtain ⟨hd, hck, hrt, hcp⟩ := hrow k pc q hrw
        obtain ⟨hlk, hcs⟩ := hlks k pc q s hrw hG
        obtain ⟨q0, i, len, a, b, ca, da⟩ := q
        dsimp only at hst hd hck hrt hcp hlk hcs
        have hcp' : ∀ v, i = .invokestatic v → 200 ≤ a → 1 ≤ R.frames ∧ nativeFrameWords "java/lang/System" "arraycopy" 5 + 11 ≤ R.locals := fun v h1 h2 => ⟨Nat.le_trans (hcp v h1 h2).1 hfr, Nat.le_trans (hcp v h1 h2).2 hlo⟩
        rcases o with t | ⟨z, t⟩ | ⟨z, u, v⟩ | ⟨mm, as, pn, L2, rs, σ2, c2⟩ | ⟨z, v⟩ | x
        · dsimp only at h
          exact xs_gd hexec hfx.2.1 hfx.2.2.1 hfx.1 (hGK k s hG) (hGc k s hG) (hGX k s hG) hbl hbA hcp' hck hlk (fun v hv ha hgx => by
            subst hv
            have hl3 : len = 3 := by simpa [xm_ck] using hck
            subst hl3
            exact hstr k pc v _ R s m args below meth c H locs cells slots ls L stk σ c0 t _ hrw rfl ha hfx hG hfr hlo (by omega) (by omega) hR hgx (fun hR' => ih k t r h R s m args below meth c H locs cells slots ls hfx hG hfr hlo hc hs hR')) hd (t := t) (by rw [hst]; rfl) hR fun ls' H' locs' hR' => ih k t r h R s m args below meth c H' locs' cells slots ls' hfx hG hfr hlo hc hs hR'
        · dsimp only at h
          cases z with
          | false => cases h
          | true =>
            simp only [cond_true] at h
            exact xs_gd hexec hfx.2.1 hfx.2.2.1 hfx.1 (hGK k s hG) (hGc k s hG) (hGX k s hG) hbl hbA hcp' hck hlk (fun v hv ha hgx => by
            subst hv
            have hl3 : len = 3 := by simpa [xm_ck] using hck
            subst hl3
            exact hstr k pc v _ R s m args below meth c H locs cells slots ls L stk σ c0 t _ hrw rfl ha hfx hG hfr hlo (by omega) (by omega) hR hgx (fun hR' => ih k t r h R s m args below meth c H locs cells slots ls hfx hG hfr hlo hc hs hR')) hd (t := t) (by rw [hst]; rfl) hR fun ls' H' locs' hR' => ih k t r h R s m args below meth c H' locs' cells slots ls' hfx hG hfr hlo hc hs hR'
        · dsimp only at h
          refine xs_br hexec hfx.2.1 hck hd hst hR (fun hz ls' H' locs' hR' => ?_) (fun hz ls' H' locs' hR' => ?_)
          · subst hz
            exact ih k u r h R s m args below meth c H' locs' cells slots ls' hfx hG hfr hlo hc hs hR'
          · subst hz
            exact ih k v r h R s m args below meth c H' locs' cells slots ls' hfx hG hfr hlo hc hs hR'
        · dsimp only at h
          cases hr1 : xm_run n mm (xm_en mm as σ2) with
          | none => rw [hr1] at h; cases h
          | some r1 =>
            rw [hr1] at h
            dsimp only at h
            have hec : r1.2.2.2 ≤ r.2.2.2 := xm_bk_ec h
            rcases ki3 (ki_of hst rfl (by decide)) with ⟨v, rfl⟩ | ⟨v, rfl⟩
            · have hlen : len = 3 := by simpa [xm_ck] using hck
              subst hlen
              cases ha : Nat.ble 200 a with
              | true =>
                exfalso
                have hz := congrArg xm_kd hst
                simp only [xm_ex, ha, cond_true] at hz
                have h5 := @kd_copy xm_ak xm_al (pc + 3) L stk σ
                rw [hz] at h5
                change 3 ≤ 1 at h5
                omega
              | false =>
                simp only [xm_ex, ha, cond_false] at hst
                obtain ⟨rfl, rfl, rfl, rfl, rfl, hpop, hw8, hwm⟩ := xm_call_inv hst
                obtain ⟨⟨⟨mk, methk, ck, y1, y2, y3, y4, y5, y6, y7, y8, y9⟩, hpl, hy⟩, z1, z2, z3, z4, z5, z6⟩ := hcs (Nat.lt_of_not_le fun hge => by rw [Nat.ble_eq_true_of_le hge] at ha; cases ha)
                obtain ⟨cs', w1, w2, w3⟩ := xm_pop_spec _ _ _ _ _ hpop
                rw [List.append_nil] at w2
                subst w2
                have hoks := xoks_app.mp (w1 ▸ hR.2.2.1 : xoks (as.reverse ++ rs))
                intro T hT X
                obtain ⟨vm', X₁, res⟩ := xres_s X hexec hfx.1 z1 z2 z3 y1 y2 y9 hy (g := F0 m pc ls (stk.map (xv ad))) rfl (vs := as.map (xv ad)) (rest := rs.map (xv ad)) (by rw [z4, List.length_map, w3]) (by rw [w1]; simp) (by rw [hfx.2.1]; exact hd)
                have hM1 : xMem D cl cs ad A H0 N xs σ2 (T.setVm vm').heap locs := by
                  show xMem D cl cs ad A H0 N xs σ2 T.heap locs
                  rw [hT]
                  exact hR.2.2.2.1
                obtain ⟨t1, st1, hE⟩ := xs_inK (hGw k mm) X₁ hM1 (by rw [hfx.2.1]; exact hd) (hR.1.1.trans hfx.2.2.1.symm) y1 y2 y3 y4 y5 y6 y7 y8 hpl hG (xoks_rev hoks.1) hwm hw8 (r1 := r1) (r := rs) (Nat.le_trans z5 hfr) (Nat.le_trans z6 hlo) (by omega) (by omega) (ih mm _ r1 hr1)
                obtain ⟨t, st2, hE2⟩ := xs_outK (rs := rs) hnh hcat ih hfx hG hfr hlo hc hs ⟨hR.1, hR.2.1, hoks.2, hR.2.2.2⟩ X₁ (by rw [hfx.2.1]; exact hd) hE h
                exact ⟨t, res _ (st1.trans st2), hE2⟩
            · have hlen : len = 3 := by simpa [xm_ck] using hck
              subst hlen
              have ha : Nat.ble 200 a = false := by
                cases ha : Nat.ble 200 a with
                | false => rfl
                | true =>
                  exfalso
                  have hz := congrArg xm_kd hst
                  simp only [xm_ex, ha, cond_true] at hz
                  have h5 := @kd_str a (pc + 3) L stk σ c0
                  rw [hz] at h5
                  change 3 ≤ 1 at h5
                  omega
              simp only [xm_ex, ha, cond_false] at hst
              obtain ⟨rfl, rfl, rfl, rfl, rfl, hpop, hw8, hwm, jj, as', rfl⟩ := xm_callv_inv hst
              obtain ⟨⟨⟨mk, methk, ck, y1, y2, y3, y4, y5, y6, y7, y8, y9⟩, hpl, hy⟩, z1, z2, z3, z4, z5, z6, z7, TT, nn, z8⟩ := hcs (Nat.lt_of_not_le fun hge => by rw [Nat.ble_eq_true_of_le hge] at ha; cases ha)
              obtain ⟨cs', w1, w2, w3⟩ := xm_pop_spec _ _ _ _ _ hpop
              rw [List.append_nil] at w2
              subst w2
              have hoks := xoks_app.mp (w1 ▸ hR.2.2.1 : xoks ((xR (xm_rk mm) jj :: as').reverse ++ rs))
              have hok1 := (xoks_cons _ _).mp (xoks_rev hoks.1)
              have hpr := xprs_of hok1.1 z7 (by decide)
              intro T hT X
              obtain ⟨q0, -, hq0⟩ := xw_get (cs := cs) (ad := ad) (σ := σ2) hpr
              rw [xe_obj z7] at hq0
              obtain ⟨rr, hrr, cellB, hB1, hB2, hB3, -⟩ := hR.2.2.2.1.1 q0 _ hq0
              have hcB : s.vm.findClass (xm_mn mm).cls = some cellB.cls := by
                rw [hB2]
                exact ((hGK k s hG).1 _ _ z8).2.1
              obtain ⟨vm', X₁, res⟩ := xres_v X hexec hfx.1 z1 z2 z3 y1 y2 y9 hy (b := ad (xm_rk mm) jj) (cellB := cellB) (by rw [hT]; exact hB1) (by rw [hB3]; rfl) hcB (g := F0 m pc ls (stk.map (xv ad))) rfl (vs := as'.map (xv ad)) (rest := rs.map (xv ad))
                (by
                  rw [List.length_map]
                  cases hp : parseMethodDescriptor (xm_mn mm).desc with
                  | none => rw [hp] at z4; cases z4
                  | some dd =>
                    rw [hp] at z4
                    simp only [Option.map_some, Option.some.injEq] at z4 ⊢
                    simp only [List.length_cons] at w3
                    omega) (by rw [w1]; simp [xv]) (by rw [hfx.2.1]; exact hd)
              have hM1 : xMem D cl cs ad A H0 N xs σ2 (T.setVm vm').heap locs := by
                show xMem D cl cs ad A H0 N xs σ2 T.heap locs
                rw [hT]
                exact hR.2.2.2.1
              obtain ⟨t1, st1, hE⟩ := xs_inK (hGw k mm) X₁ hM1 (by rw [hfx.2.1]; exact hd) (hR.1.1.trans hfx.2.2.1.symm) y1 y2 y3 y4 y5 y6 y7 y8 hpl hG (as := xR (xm_rk mm) jj :: as') (xoks_rev hoks.1) hwm hw8 (r1 := r1) (r := rs) (Nat.le_trans z5 hfr) (Nat.le_trans z6 hlo) (by omega) (by omega) (ih mm _ r1 hr1)
              obtain ⟨t, st2, hE2⟩ := xs_outK (rs := rs) hnh hcat ih hfx hG hfr hlo hc hs ⟨hR.1, hR.2.1, hoks.2, hR.2.2.2⟩ X₁ (by rw [hfx.2.1]; exact hd) hE h
              exact ⟨t, res _ (st1.trans st2), hE2⟩
        · dsimp only at h
          cases z with
          | false => cases h
          | true =>
            simp only [cond_true] at h
            cases h
            exact xs_ret hexec hfx hrt hck hd hst hR
        · dsimp only at h
          cases h
          obtain ⟨⟨v, rfl⟩, rfl, rfl, rfl⟩ := xm_ex_thr hst
          have hl0 := hR.2.2.2.2 rfl
          subst hl0
          exact hthr k pc v _ R s m args below meth c H cells slots ls L σ hrw rfl hfx hG hfr hlo hc (by omega) hR
end X8
