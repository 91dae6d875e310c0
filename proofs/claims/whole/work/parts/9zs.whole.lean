-- The claim (the skeleton's text; own: the start, and what it stands on)
/-! THE CLAIM OUT OF ONE WALK OF THE LAW'S BODY. Your part is whole_start (and what it stands on); all else here is the same for every law, but numbers. -/
def R_law : String := "LayerFeederLaw"
def lw_P (b : Addr) (xs : List Int32) (args : Array Value) (s : State) : Prop := args = #[.ref b] ∧ s.IntsAt b xs ∧ xs.length ≤ 1537 ∧ (Jvm.Cond.and given_1 narrow_1).before args s = true
def lw_Q (_ : Array Value) (s : State) (o : Outcome) (t : State) : Prop := o = .returned (some (.int 1)) ∧ Framed s o t [] 608273 7271250
def lw_Z (below : List Frame) (a : Array Value) (s : State) : State → Prop := fun t => ∃ o, t.status = .running ∧ Ended t below o ∧ lw_Q a s o t
/-- what holds at the law's entry: the machine, the code, the tables' words (any of lw_tbl by 'hts w (by decide +kernel)'), the script of L ints xs at the cell b, what the Statement gives of the start (any of its parts by flat_of_before) -/
def lw_At (p : Program) (s : State) (m : MethodId) (meth : Method) (c : Code) (b L : Nat) (xs : Nat → Int32) : Prop :=
  p.tables.exec = Jvm.exec ∧ c.code = code ∧ meth.sig.returnType = ret ∧ c.maxLocals = 7 ∧ s.vm.findClass R_law = some m.cls ∧ (∀ w ∈ lw_tbl, w.before #[Value.ref b] s = true) ∧ va_X b L xs s s.heap ∧ b < s.heap.size ∧ meth.locks = false ∧ (Jvm.Cond.and given_1 narrow_1).before #[Value.ref b] s = true ∧ c.exceptionTable.isEmpty = true
theorem k_lt32 : ∀ q ∈ xprs, q.1 < 32 := by decide
theorem k_et {c : Code} (h : c.exceptionTable.isEmpty = true) : c.exceptionTable.toList.map (fun h => (h.startPc, h.endPc, h.handlerPc, h.catchType)) = xm_et 145 := by
  have e : c.exceptionTable = #[] := Array.isEmpty_iff.mp h
  rw [e]
  rfl
set_option maxRecDepth 100000 in
theorem whole_start {p : Program} {e : Env} {s : State} {m : MethodId} {below : List Frame} {meth : Method} {c : Code} (l : Launch) {b L : Nat} {xs : Nat → Int32} (hL : L ≤ 1537) (htr : e.platform.stackTraces = false) (C0 : lw_At p s m meth c b L xs) : W p l e room_1 s m #[Value.ref b] below meth c s.heap [] 0 0 (lw_Z below #[Value.ref b] s) (entryFrame m ([Value.ref b] : List Value).toArray 7) := by
  obtain ⟨hx, hb, hr, hml, hown, hts, hX, hbl, hlocks, hgv, het⟩ := C0
  have hN := ke_N hts
  obtain ⟨D, cs, hK⟩ := ke_K hts
  have hA : ∀ q : Nat, q < s.heap.size → ¬ (fun q : Nat => s.heap.size ≤ q) q := fun q h => Nat.not_le.mpr h
  have hSt := ke_Sta hts hgv hA
  have hXX := ke_X hts hgv hA
  obtain ⟨ks, vs, hT⟩ := ke_T hts hgv hA
  obtain ⟨a, a1, a2, ha⟩ := kUs_b (kCell L xs)
  refine k_walk hL hx hb hml hown hN hK hX hbl (fun q0 q13 q27 u22 u9 H locs ls hP hD hS hl => ?_)
  rw [ha] at hP hD
  obtain ⟨hP, hD⟩ := k_world (b := b) (ks := ks) (vs := vs) (L := L) (xs := xs) hP hD
  obtain ⟨n, r, hrun, o, M', hr1, hr2, ho, he⟩ := lw_loop hL 512 (kM0 a L xs) 0 1 none none false rfl (kM0_zr a L xs) (kM0_iI a1 a2 L xs) (by decide) (by decide) (by omega) (by omega)
  have hT1 := hT (kad0 (kAd b ks vs q0 q13 q27 u22 u9)) rfl rfl
  have hG : kG D cs (kAd b ks vs q0 q13 q27 u22 u9) (fun q : Nat => s.heap.size ≤ q) s.heap L xs 145 s := by
    refine Or.inr ⟨rfl, ⟨hN.1, hK, hX, va_S.rf, fun q hq => ?_, hT1.1, hSt, hT1.2⟩, hXX⟩
    have h32 : q.1 < 32 := k_lt32 q hq
    show (if q.1 < 32 then 0 else _) < s.heap.size
    rw [if_pos h32]
    omega
  have hR : xRel D xm_cl cs (kAd b ks vs q0 q13 q27 u22 u9) (fun q : Nat => s.heap.size ≤ q) s.heap L xs (xm_ml 145) (z_s (33, [some (zR 32 0), some (zR 0 0), some (zR 18 0), some (zR 31 0), some (zI 1), none, none], [], kM0 a L xs, false)) ls H locs := by
    refine ⟨⟨hl.1, hl.2.1, rfl, fun i v hv => ?_⟩, ?_, trivial, ⟨hP, hD, hS, rfl, fun i _ => Int32.ofInt_toInt (xs i)⟩, fun h => by cases h⟩
    · match i, hv with
      | 0, hv => cases hv; exact lv_at hl 4 rfl
      | 1, hv => cases hv; exact lv_at hl 3 rfl
      | 2, hv => cases hv; exact lv_at hl 2 rfl
      | 3, hv => cases hv; exact lv_at hl 1 rfl
      | 4, hv => cases hv; exact lv_at hl 0 rfl
      | 5, hv => cases hv
      | 6, hv => cases hv
      | n + 7, hv => cases hv
    · exact ⟨Or.inr (Or.inl rfl), Or.inl (by decide), Or.inl (by decide), Or.inl (by decide), trivial⟩
  have W1 := xsoundK (l := l) hx htr hbl (hA b hbl) n 145 _ r hrun room_1 s m #[Value.ref b] below meth c H locs 46 588 ls ⟨hown, hb, hml, hr, hlocks, k_et het⟩ hG (Nat.le_of_ble_eq_true rfl) (Nat.le_of_ble_eq_true rfl) (by show _ ≤ 608273; omega) (by show _ ≤ 7271250; omega) hR
  intro T hT0 X0
  obtain ⟨t, st, o1, L1, g1, g2, g3, g4, g5, g6, g7⟩ := W1 T hT0 X0
  refine ⟨t, st, o1, g1, g2, ?_⟩
  rw [hr1, ho] at g7
  have g8 : o1 = .returned (some (.int 1)) := g7.1
  refine ⟨g8, ⟨some (.int 1), g8⟩, g3, ?_⟩
  exact (State.sameButNew.drop_fresh (L := []) (J := L1) g4 (fun x hx => g5.2.2.1.2.2 x hx)).mono (by omega) (by omega)
set_option maxHeartbeats 4000000 in
theorem lw_walk (l : Launch) (htl : l.stackTraces = false) (b : Addr) (xs : List Int32) : MetFree l x (headSpec (Jvm.Cond.code x code maxLocals ret :: tables_1) room_1) (lw_P b xs) (fun _ _ _ _ _ => True) lw_Q := by
  refine MetFree.of_bodyS (code := code) (maxLocals := maxLocals) (ret := ret) (by decide) ?_ ?_
  · intro args s m h hn
    obtain ⟨meth, c, h1, h2, h3, h4, h5, h6, -, -⟩ := Cond.code_spec hn (atoms_spec (ws := Jvm.Cond.code x code maxLocals ret :: tables_1) h _ List.mem_cons_self)
    exact ⟨meth, c, h1, h2, h3, h4, h5, h6⟩
  · intro p e s m args below meth c s₁ B hml0 hP _
    obtain ⟨rfl, hx, hbd, hgv⟩ := hP
    obtain ⟨scr, harrAt, hlist, hof, hsmall⟩ := hx
    obtain ⟨hcb, hkn, -, -⟩ := State.arrayAt?_spec harrAt
    have hown : s.vm.findClass R_law = some m.cls := findClass_of_methodNamed B.named
    have hts0 : ∀ c ∈ (Jvm.Cond.code x code maxLocals ret :: tables_1), c.before #[Value.ref b] s = true := atoms_spec (ws := Jvm.Cond.code x code maxLocals ret :: tables_1) B.pre
    have hts : ∀ w ∈ lw_tbl, w.before #[Value.ref b] s = true := k2_hts_sels lw_privs (fun w hw => hts0 w (List.mem_cons_of_mem _ hw)) lw_privs_ok
    have hml : c.maxLocals = 7 := B.maxLocals_eq (hts0 _ List.mem_cons_self)
    have hetE : c.exceptionTable.isEmpty = true := by
      obtain ⟨meth2, c2, h1, h2, -, -, -, -, h7, -⟩ := Cond.code_spec B.named (hts0 _ List.mem_cons_self)
      have e1 : s₁.code? m = some c := B.here.code
      rw [B.state] at e1
      have e0 : (s.vm.method? m).bind (·.code) = s.code? m := by
        unfold Vm.method? State.code?
        cases s.vm.classes[m.cls]? <;> rfl
      have e2 : (s.vm.method? m).bind (·.code) = some c := e0.trans e1
      rw [h1] at e2
      have e3 : some c2 = some c := h2.symm.trans e2
      rw [← Option.some.inj e3]
      exact h7
    have X₀ : Stand p l e room_1 s m #[Value.ref b] below meth c s₁ [] 0 0 := Stand.of_body B
    have hh0 : s₁.heap = s.heap := by rw [B.state]; rfl
    have hsz : scr.slots.size = xs.length := by rw [← Array.length_toList, hlist, List.length_map]
    have hval : ∀ j : Nat, j < xs.length → scr.slots[j]? = some (.int (xs.getD j 0)) := fun j hj => by
      rw [← Array.getElem?_toList, hlist]
      simp [hj]
    have hbl : b < s.heap.size := (Array.getElem?_eq_some_iff.mp hcb).1
    have hX : va_X b xs.length (fun j => xs.getD j 0) s s.heap := ⟨scr, hcb, hof, hkn, hsz, hval⟩
    have K : W p l e room_1 s m #[Value.ref b] below meth c s₁.heap [] 0 0 (lw_Z below #[Value.ref b] s) (entryFrame m ([Value.ref b] : List Value).toArray 7) := by
      rw [hh0]
      exact whole_start l hbd (by rw [B.admits.platform]; exact htl) ⟨B.exec, B.bytes, B.returns, hml, hown, hts, hX, hbl, B.notSynchronized, hgv, hetE⟩
    obtain ⟨t, a1, o, b1, b2, b3⟩ := K s₁ rfl X₀
    exact ⟨t, o, a1, b1, b2, b3⟩
theorem lw_pre_spec {args : Array Value} {s : State} (h : (Jvm.Cond.and given_1 narrow_1).before args s = true) (hr : rest_1_c.before args s = true) : ∃ (b : Addr) (xs : List Int32), lw_P b xs args s := by
  have hs := flat_of_before _ h
  have hq := flat_of_before _ hr
  have hc : (Cond.count 1).before args s = true := hs _ (by decide +kernel)
  have harr : (Cond.arrayOf (.arg 0) .int).before args s = true := hs _ (by decide +kernel)
  have hle : (Cond.le (.length (.arg 0)) (.int 1537)).before args s = true := hs _ (by decide +kernel)
  have hlen : (Cond.isInt (.length (.arg 0))).before args s = true := hq _ (by decide +kernel)
  have hall : (Cond.all (.arg 0) (.isInt (.elem (.arg 0) (.index 0)))).before args s = true := hq _ (by decide +kernel)
  obtain ⟨b, xs, hb, hx⟩ := State.ints_of_pre rfl harr hlen hall
  have hsm : xs.length < 2 ^ 31 := hx.choose_spec.2.2.2
  have hev : (Term.length (.arg 0)).eval args s none [] s = some (.int xs.length.toInt32) := hx.length_eval hb
  have hv := Cond.le_ints hev (show (Term.int 1537).eval args s none [] s = some (.int 1537) from rfl)
  have hd : xs.length.toInt32 ≤ 1537 := by
    simpa [Cond.before, Cond.holds, hv] using hle
  have hN : xs.length ≤ 1537 := (Int32.ofNat_le_ofNat hsm (by decide)).mp (show Int32.ofNat xs.length ≤ Int32.ofNat 1537 from hd)
  exact ⟨b, xs, Cond.one_arg hc (show args[0]? = some (.ref b) from hb), hx, hN, h⟩
theorem lw_comes (l : Launch) (htl : l.stackTraces = false) : Comes l x (Jvm.Cond.code x code maxLocals ret :: tables_1) room_1 (fun tb e args s => Calls_1 tb e args s ∧ rest_1 tb e args s ∧ Pre_1 tb e args s)
    (fun _ _ args s o t => lw_Q args s o t) := by
  intro p e ha hc hk s m args below hf hfit hheap happ hpre
  obtain ⟨b, xs, hP⟩ := lw_pre_spec hpre.2.2 hpre.2.1
  obtain ⟨k, o, h1, h2, h3, hQ⟩ := lw_walk l htl b xs p e ha hc hk s m args below hf ((Spec.applies_iff_loose hf).mp happ).1 hP trivial
  exact ⟨k, o, h1, h2, h3, hQ⟩
theorem lw_frame {s t : State} {o : Outcome} {args : Array Value} (h : Framed s o t [] 608273 7271250) :
    Framed s o t (fieldLocs frame_1_writes args s ++ arrayLocs frame_1_arrays args s ++ staticLocs frame_1_statics s) 608273 7271250 := h
theorem lw_tr {l : Launch} (h : l.flags = flags0) : l.stackTraces = false := by
  unfold Launch.stackTraces
  rw [h]
  decide +kernel
theorem lw_limb (L : Cond) (hL : ∀ (args : Array Value) (s t : State), L.after args s (.returned (some (.int 1))) t = true) :
    ArmFor flags0 classFile x code maxLocals ret World_1 tables_1 room_1 Calls_1 rest_1 Pre_1
      (fun tb e a s o t => postC L tb e a s o t ∧ Framed s o t (fieldLocs frame_1_writes a s ++ arrayLocs frame_1_arrays a s ++ staticLocs frame_1_statics s) 608273 7271250) := by
  intro l hfl _ _ p e ha hc hk s m args below hf hfit hheap happ hpre
  obtain ⟨k, o, h1, h2, h3, rfl, hF⟩ := lw_comes l (lw_tr hfl) p e ha hc hk s m args below hf hfit hheap happ hpre
  exact ⟨k, _, h1, h2, h3, hL args s _, lw_frame hF⟩
theorem i_vc : Claimed_1_1 ∧ Claimed_1_2 := ⟨lw_limb limb_1_1 (fun args s t => by simp [limb_1_1, Cond.after, Cond.holds, Cond.value]), lw_limb limb_1_2 (fun args s t => Cond.after_iff.mpr (by
  first | (rw [show limb_1_2 = Cond.eq .result (.int 1) from rfl, Cond.eq_ints (x := 1) (y := 1) rfl rfl]; simp; done) | (simp [limb_1_2, Cond.value, Term.eval]; done)))⟩
