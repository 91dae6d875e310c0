-- every instruction that goes on is one of the JVM (own work; written by gen/s5.py)
theorem xm_lsw_in {pc : Nat} {dflt k : Int} : ∀ ps : List (Int × Int), 0 ≤ (pc : Int) + dflt → (ps.all fun o => decide (0 ≤ (pc : Int) + o.2)) = true → 0 ≤ (pc : Int) + Jvm.Op.lookupswitch.offset ps dflt k
  | [], h, _ => h
  | q :: r, h, h2 => by
    simp only [List.all_cons, Bool.and_eq_true, decide_eq_true_eq] at h2
    rw [Jvm.Op.lookupswitch.offset_cons]
    split
    · exact h2.1
    · exact xm_lsw_in r h h2.2
theorem xm_gd_b1 {f : Int32 → Bool} {pn tgt : Nat} {L : xm_L} {st : List xm_V} {σ : xm_M} {c0 : Bool} {t : xm_S} : xm_gd (xm_b1 f pn tgt L st σ c0) ≠ some t := by
  intro h
  unfold xm_b1 at h
  split at h <;> cases h
theorem xm_gd_b2 {f : Int32 → Int32 → Bool} {pn tgt : Nat} {L : xm_L} {st : List xm_V} {σ : xm_M} {c0 : Bool} {t : xm_S} : xm_gd (xm_b2 f pn tgt L st σ c0) ≠ some t := by
  intro h
  unfold xm_b2 at h
  split at h <;> cases h
theorem xm_gd_call {ml m n pn : Nat} {L : xm_L} {st : List xm_V} {σ : xm_M} {c0 : Bool} {t : xm_S} : xm_gd (xm_call ml m n pn L st σ c0) ≠ some t := by
  intro h
  unfold xm_call at h
  split at h
  · rename_i as r hr
    cases hz : Nat.ble (xm_wt r) 8 && Nat.ble (xm_wt as) ml with
    | true => rw [hz] at h; cases h
    | false => rw [hz] at h; cases h
  · cases h
theorem xm_gd_callv {ml rk m n pn : Nat} {L : xm_L} {st : List xm_V} {σ : xm_M} {c0 : Bool} {t : xm_S} : xm_gd (xm_callv ml rk m n pn L st σ c0) ≠ some t := by
  intro h
  unfold xm_callv at h
  split at h
  · rename_i k j as r hr
    cases hz : (Nat.ble (xm_wt r) 8 && Nat.ble (xm_wt (xR k j :: as)) ml) && Nat.beq k rk with
    | true => rw [hz] at h; cases h
    | false => rw [hz] at h; cases h
  · cases h
theorem xm_gd_iret {rs : Nat} {st : List xm_V} {t : xm_S} : xm_gd (xm_iret rs st) ≠ some t := by
  intro h
  unfold xm_iret at h
  split at h
  · split at h <;> cases h
  · cases h
theorem xm_gd_lret {st : List xm_V} {t : xm_S} : xm_gd (xm_lret st) ≠ some t := by
  intro h
  unfold xm_lret at h
  split at h <;> cases h
theorem xm_gd_aret {st : List xm_V} {t : xm_S} : xm_gd (xm_aret st) ≠ some t := by
  intro h
  unfold xm_aret at h
  split at h <;> cases h
theorem xm_gd_vret {st : List xm_V} {t : xm_S} : xm_gd (xm_vret st) ≠ some t := by
  intro h
  unfold xm_vret at h
  split at h <;> cases h
theorem xm_gd_thr {x : Nat} {st : List xm_V} {c0 : Bool} {t : xm_S} : xm_gd (xm_thr x st c0) ≠ some t := by
  intro h
  unfold xm_thr at h
  split at h <;> cases h
section X5
variable {p : Program} {l : Launch} {e : Env} {R : Room} {s : State} {m : MethodId} {args : Array Value} {below : List Frame} {meth : Method} {c : Code} {H : Heap} {locs : List Loc} {cells slots : Nat} {Q : State → Prop}
variable {D : va_G} {cl : List vw_C} {cs : Nat → ClassId} {ad : Nat → Nat → Nat} {A : Nat → Prop} {H0 : Heap} {N : Nat} {xs : Nat → Int32} {nL rs pc n a b : Nat} {ca : Int32} {da : Int64} {i : Jvm.ClassFile.Instr} {ls : Array Slot} {L : xm_L} {st : List xm_V} {σ : xm_M} {c0 : Bool} {t : xm_S} {cc : ByteArray} {own : String}
theorem xs_gd (hexec : p.tables.exec = Jvm.exec) (hb : c.code = cc) (hml : c.maxLocals = nL) (hown : s.vm.findClass own = some m.cls) (hK : va_K D cl (xtys cs) s) (hcf : xcf cl s) (hX : va_X (ad 32 0) N xs s H0) (hbl : ad 32 0 < H0.size) (hbA : ¬ A (ad 32 0))
    (hcp : ∀ v, i = .invokestatic v → 200 ≤ a → 1 ≤ R.frames ∧ nativeFrameWords "java/lang/System" "arraycopy" 5 + 11 ≤ R.locals) (hck : xm_ck nL pc i n a b ca da = true) (hlk : xlk ad own cl s i a b ca da) (hstr : ∀ v, i = .invokevirtual v → 200 ≤ a → xm_gd (xm_str a (pc + n) L st σ c0) = some t → W p l e R s m args below meth c H locs cells slots Q (F0 m pc ls (st.map (xv ad)))) (hd : decode cc pc = .ok (i, n))
    (hx : xm_gd (xm_ex rs i pc (pc + n) a b ca da L st σ c0) = some t) (hR : xRel D cl cs ad A H0 N xs nL (pc, L, st, σ, c0) ls H locs)
    (kk : ∀ (ls' : Array Slot) (H' : Heap) (locs' : List Loc), xRel D cl cs ad A H0 N xs nL t ls' H' locs' → W p l e R s m args below meth c H' locs' cells slots Q (F0 m t.1 ls' (t.2.2.1.map (xv ad)))) :
    W p l e R s m args below meth c H locs cells slots Q (F0 m pc ls (st.map (xv ad))) := by
  cases i
  case iconst v =>
    simp only [xm_ck, Bool.and_eq_true, decide_eq_true_eq] at hck
    obtain ⟨rfl, hv⟩ := hck
    obtain rfl := Option.some.inj hx
    exact lv_iconst hexec hb hd hv (kk ls H locs ⟨hR.1, hR.2.1, hR.2.2.1, hR.2.2.2⟩)
  case bipush v =>
    simp only [xm_ck, Bool.and_eq_true, decide_eq_true_eq] at hck
    obtain ⟨rfl, hv⟩ := hck
    obtain rfl := Option.some.inj hx
    exact lv_bipush hexec hb hd hv (kk ls H locs ⟨hR.1, hR.2.1, hR.2.2.1, hR.2.2.2⟩)
  case sipush v =>
    simp only [xm_ck, Bool.and_eq_true, decide_eq_true_eq] at hck
    obtain ⟨rfl, hv⟩ := hck
    obtain rfl := Option.some.inj hx
    exact lv_sipush hexec hb hd hv (kk ls H locs ⟨hR.1, hR.2.1, hR.2.2.1, hR.2.2.2⟩)
  case lconst v =>
    simp only [xm_ck, Bool.and_eq_true, decide_eq_true_eq] at hck
    obtain ⟨rfl, hv⟩ := hck
    obtain rfl := Option.some.inj hx
    exact lv_lconst hexec hb hd hv (kk ls H locs ⟨hR.1, hR.2.1, hR.2.2.1, hR.2.2.2⟩)
  case ldc v =>
    simp only [xm_ck, decide_eq_true_eq] at hck
    subst hck
    cases ha : Nat.beq a 0 with
    | false =>
      simp only [xm_ex, ha] at hx
      obtain rfl := Option.some.inj hx
      exact va_ldcS hexec hb hown (hlk.2 (fun h0 => by rw [h0] at ha; cases ha)) hd (kk ls H locs ⟨hR.1, hR.2.1, (xoks_cons _ _).mpr ⟨Or.inr (Or.inr rfl), hR.2.2.1⟩, hR.2.2.2⟩)
    | true =>
      simp only [xm_ex, ha] at hx
      obtain rfl := Option.some.inj hx
      exact lv_ldc hexec hb hown (va_Nw.use rfl (hlk.1 (Nat.eq_of_beq_eq_true ha))) hd (kk ls H locs ⟨hR.1, hR.2.1, hR.2.2.1, hR.2.2.2⟩)
  case ldc2_w v =>
    simp only [xm_ck, decide_eq_true_eq] at hck
    subst hck
    obtain rfl := Option.some.inj hx
    exact lv_ldc2 hexec hb hown (va_Nw.use rfl hlk) hd (kk ls H locs ⟨hR.1, hR.2.1, hR.2.2.1, hR.2.2.2⟩)
  case iload_n v =>
    simp only [xm_ck, Bool.and_eq_true, decide_eq_true_eq] at hck
    obtain ⟨rfl, rfl⟩ := hck
    exact xs_ldi hx hR (fun x r h1 h2 => lv_iload_n hexec hb hd rfl h1 h2) kk
  case iload v =>
    simp only [xm_ck, Bool.and_eq_true, decide_eq_true_eq] at hck
    obtain ⟨rfl, rfl⟩ := hck
    exact xs_ldi hx hR (fun x r h1 h2 => lv_iload hexec hb hd h1 h2) kk
  case lload_n v =>
    simp only [xm_ck, Bool.and_eq_true, decide_eq_true_eq] at hck
    obtain ⟨rfl, rfl⟩ := hck
    exact xs_ldl hx hR (fun x r h1 h2 => lv_lload_n hexec hb hd rfl h1 h2) kk
  case lload v =>
    simp only [xm_ck, Bool.and_eq_true, decide_eq_true_eq] at hck
    obtain ⟨rfl, rfl⟩ := hck
    exact xs_ldl hx hR (fun x r h1 h2 => lv_lload hexec hb hd h1 h2) kk
  case aload_n v =>
    simp only [xm_ck, Bool.and_eq_true, decide_eq_true_eq] at hck
    obtain ⟨rfl, rfl⟩ := hck
    exact xs_lda hx hR (fun x r h1 h2 => lv_aload_n hexec hb hd rfl h1 h2) kk
  case aload v =>
    simp only [xm_ck, Bool.and_eq_true, decide_eq_true_eq] at hck
    obtain ⟨rfl, rfl⟩ := hck
    exact xs_lda hx hR (fun x r h1 h2 => lv_aload hexec hb hd h1 h2) kk
  case istore_n v =>
    simp only [xm_ck, Bool.and_eq_true, decide_eq_true_eq] at hck
    obtain ⟨rfl, rfl, hn⟩ := hck
    exact xs_sti hx hR (fun x r h => lv_istore_n hexec hb hd rfl hR.1.has hn rfl h) kk
  case istore v =>
    simp only [xm_ck, Bool.and_eq_true, decide_eq_true_eq] at hck
    obtain ⟨rfl, rfl, hn⟩ := hck
    exact xs_sti hx hR (fun x r h => lv_istore hexec hb hd hR.1.has hn rfl h) kk
  case lstore_n v =>
    simp only [xm_ck, Bool.and_eq_true, decide_eq_true_eq] at hck
    obtain ⟨rfl, rfl, hn⟩ := hck
    exact xs_stl hx hR (fun x r h => lv_lstore_n hexec hb hd rfl hR.1.has hn rfl h) kk
  case lstore v =>
    simp only [xm_ck, Bool.and_eq_true, decide_eq_true_eq] at hck
    obtain ⟨rfl, rfl, hn⟩ := hck
    exact xs_stl hx hR (fun x r h => lv_lstore hexec hb hd hR.1.has hn rfl h) kk
  case astore_n v =>
    simp only [xm_ck, Bool.and_eq_true, decide_eq_true_eq] at hck
    obtain ⟨rfl, rfl, hn⟩ := hck
    exact xs_sta hx hR (fun x r h => lv_astore_n hexec hb hd rfl hR.1.has hn rfl h) kk
  case astore v =>
    simp only [xm_ck, Bool.and_eq_true, decide_eq_true_eq] at hck
    obtain ⟨rfl, rfl, hn⟩ := hck
    exact xs_sta hx hR (fun x r h => lv_astore hexec hb hd hR.1.has hn rfl h) kk
  case iinc v w =>
    simp only [xm_ck, Bool.and_eq_true, decide_eq_true_eq] at hck
    obtain ⟨rfl, rfl, hc, hn⟩ := hck
    exact xs_inc hx hR (fun x k r h1 h2 => lv_iinc hexec hb hd hR.1.has h1 (by rw [hc]) hn rfl h2) kk
  case iadd =>
    simp only [xm_ck, decide_eq_true_eq] at hck
    subst hck
    exact xs_i2 hx hR (fun x y r h => lv_iadd hexec hb hd h) kk
  case isub =>
    simp only [xm_ck, decide_eq_true_eq] at hck
    subst hck
    exact xs_i2 hx hR (fun x y r h => lv_isub hexec hb hd h) kk
  case imul =>
    simp only [xm_ck, decide_eq_true_eq] at hck
    subst hck
    exact xs_i2 hx hR (fun x y r h => lv_imul hexec hb hd h) kk
  case iand =>
    simp only [xm_ck, decide_eq_true_eq] at hck
    subst hck
    exact xs_i2 hx hR (fun x y r h => lv_iand hexec hb hd h) kk
  case ior =>
    simp only [xm_ck, decide_eq_true_eq] at hck
    subst hck
    exact xs_i2 hx hR (fun x y r h => lv_ior hexec hb hd h) kk
  case ixor =>
    simp only [xm_ck, decide_eq_true_eq] at hck
    subst hck
    exact xs_i2 hx hR (fun x y r h => lv_ixor hexec hb hd h) kk
  case ishl =>
    simp only [xm_ck, decide_eq_true_eq] at hck
    subst hck
    exact xs_i2 hx hR (fun x y r h => lv_ishl hexec hb hd h) kk
  case ishr =>
    simp only [xm_ck, decide_eq_true_eq] at hck
    subst hck
    exact xs_i2 hx hR (fun x y r h => lv_ishr hexec hb hd h) kk
  case idiv =>
    simp only [xm_ck, decide_eq_true_eq] at hck
    subst hck
    exact xs_i2d hx hR (fun x y r h0 h => lv_idiv hexec hb hd h0 h) kk
  case irem =>
    simp only [xm_ck, decide_eq_true_eq] at hck
    subst hck
    exact xs_i2d hx hR (fun x y r h0 h => lv_irem hexec hb hd h0 h) kk
  case ineg =>
    simp only [xm_ck, decide_eq_true_eq] at hck
    subst hck
    exact xs_i1 (f := fun x => xI (-x)) (fun x => trivial) hx hR (fun x r h => lv_ineg hexec hb hd h) kk
  case i2l =>
    simp only [xm_ck, decide_eq_true_eq] at hck
    subst hck
    exact xs_i1 (f := fun x => xJ x.toInt64) (fun x => trivial) hx hR (fun x r h => lv_i2l hexec hb hd rfl h) kk
  case i2c =>
    simp only [xm_ck, decide_eq_true_eq] at hck
    subst hck
    exact xs_i1 (f := fun x => xI (xm_nc x)) (fun x => trivial) hx hR (fun x r h => lv_i2c hexec hb hd rfl h) kk
  case l2i =>
    simp only [xm_ck, decide_eq_true_eq] at hck
    subst hck
    exact xs_l1 (f := fun x => xI x.toInt32) (fun x => trivial) hx hR (fun x r h => lv_l2i hexec hb hd rfl h) kk
  case ladd =>
    simp only [xm_ck, decide_eq_true_eq] at hck
    subst hck
    exact xs_l2 hx hR (fun x y r h => lv_ladd hexec hb hd h) kk
  case lsub =>
    simp only [xm_ck, decide_eq_true_eq] at hck
    subst hck
    exact xs_l2 hx hR (fun x y r h => lv_lsub hexec hb hd h) kk
  case lmul =>
    simp only [xm_ck, decide_eq_true_eq] at hck
    subst hck
    exact xs_l2 hx hR (fun x y r h => lv_lmul hexec hb hd h) kk
  case land =>
    simp only [xm_ck, decide_eq_true_eq] at hck
    subst hck
    exact xs_l2 hx hR (fun x y r h => lv_land hexec hb hd h) kk
  case lor =>
    simp only [xm_ck, decide_eq_true_eq] at hck
    subst hck
    exact xs_l2 hx hR (fun x y r h => lv_lor hexec hb hd h) kk
  case ldiv =>
    simp only [xm_ck, decide_eq_true_eq] at hck
    subst hck
    exact xs_l2d hx hR (fun x y r h0 h => lv_ldiv hexec hb hd h0 h) kk
  case lshl =>
    simp only [xm_ck, decide_eq_true_eq] at hck
    subst hck
    exact xs_li hx hR (fun x y r h => lv_lshl hexec hb hd rfl h) kk
  case lushr =>
    simp only [xm_ck, decide_eq_true_eq] at hck
    subst hck
    exact xs_li hx hR (fun x y r h => lv_lushr hexec hb hd rfl h) kk
  case lcmp =>
    simp only [xm_ck, decide_eq_true_eq] at hck
    subst hck
    exact xs_ll hx hR (fun x y r h => W.lcmp hexec hb hd h) kk
  case dup =>
    simp only [xm_ck, decide_eq_true_eq] at hck
    subst hck
    exact xs_dup hx hR (fun v r h1 h => lv_dup hexec hb hd h1 h) kk
  case pop =>
    simp only [xm_ck, decide_eq_true_eq] at hck
    subst hck
    exact xs_pp hx hR (fun v r h1 h => lv_pop hexec hb hd h1 h) kk
  case dup_x1 =>
    simp only [xm_ck, decide_eq_true_eq] at hck
    subst hck
    exact xs_dupx1 hx hR (fun v u r h1 h2 h => lv_dup_x1 hexec hb hd h1 h2 h) kk
  case dup_x2 =>
    simp only [xm_ck, decide_eq_true_eq] at hck
    subst hck
    exact xs_dupx2 hx hR (fun v u w r h1 h2 h3 h => lv_dup_x2 hexec hb hd h1 h2 h3 h) kk
  case dup2 =>
    simp only [xm_ck, decide_eq_true_eq] at hck
    subst hck
    exact xs_dup2 hx hR (fun v u r h1 h2 h => lv_dup2_11 hexec hb hd h1 h2 h) kk
  case goto o =>
    simp only [xm_ck, Bool.and_eq_true, decide_eq_true_eq] at hck
    obtain ⟨rfl, ht⟩ := hck
    obtain rfl := Option.some.inj hx
    exact lv_goto hexec hb hd ht (kk ls H locs ⟨hR.1, hR.2.1, hR.2.2.1, hR.2.2.2⟩)
  case tableswitch dflt lo hi offs =>
    simp only [xm_ck, Bool.and_eq_true, decide_eq_true_eq] at hck
    obtain ⟨h1, h2, h3⟩ := hck
    refine xs_sw (f := xm_tsw pc dflt lo hi offs) hx hR (fun x r h => ?_) kk
    by_cases hin : x.toInt < lo ∨ hi < x.toInt
    · refine lv_tableOut hexec hb hd hin ?_ h
      unfold xm_tsw
      rw [if_pos hin]
      omega
    · have hlt : (x.toInt - lo).toNat < offs.size := by omega
      have hg : offs[(x.toInt - lo).toNat]? = some offs[(x.toInt - lo).toNat] := Array.getElem?_eq_getElem hlt
      refine lv_tableIn hexec hb hd (fun q => hin (Or.inl q)) (fun q => hin (Or.inr q)) hg ?_ h
      unfold xm_tsw
      rw [if_neg hin, hg]
      have h4 := List.all_eq_true.mp h2 _ (Array.getElem_mem_toList hlt)
      simp only [decide_eq_true_eq] at h4
      simp only [Option.getD_some]
      omega
  case lookupswitch dflt ps =>
    simp only [xm_ck, Bool.and_eq_true, decide_eq_true_eq] at hck
    obtain ⟨h1, h2, h3⟩ := hck
    refine xs_sw (f := xm_lsw pc dflt ps) hx hR (fun x r h => ?_) kk
    have h4 := xm_lsw_in (k := x.toInt) ps.toList h1 h2
    refine lv_lookup hexec hb hd h3 rfl ?_ h
    unfold xm_lsw
    omega
  case getfield v =>
    simp only [xm_ck, Bool.and_eq_true, decide_eq_true_eq] at hck
    obtain ⟨rfl, h1, h2⟩ := hck
    exact xs_get hexec hb hown hK hcf hlk h1 h2 hd hx hR kk
  case putfield v =>
    simp only [xm_ck, Bool.and_eq_true, decide_eq_true_eq] at hck
    obtain ⟨rfl, h1, h2⟩ := hck
    exact xs_put hexec hb hown hK hcf hlk.1 hlk.2 h1 h2 hd hx hR kk
  case iaload =>
    simp only [xm_ck, decide_eq_true_eq] at hck
    subst hck
    exact xs_iald hexec hb hK hX hbl hbA hd hx hR kk
  case caload =>
    simp only [xm_ck, decide_eq_true_eq] at hck
    subst hck
    exact xs_cald hexec hb hK hd hx hR kk
  case laload =>
    simp only [xm_ck, decide_eq_true_eq] at hck
    subst hck
    exact xs_lald hexec hb hK hd hx hR kk
  case aaload =>
    simp only [xm_ck, decide_eq_true_eq] at hck
    subst hck
    exact xs_aald hexec hb hK hd hx hR kk
  case iastore =>
    simp only [xm_ck, decide_eq_true_eq] at hck
    subst hck
    exact xs_iast hexec hb hK hd hx hR kk
  case castore =>
    simp only [xm_ck, decide_eq_true_eq] at hck
    subst hck
    exact xs_cast hexec hb hK hd hx hR kk
  case lastore =>
    simp only [xm_ck, decide_eq_true_eq] at hck
    subst hck
    exact xs_last hexec hb hK hd hx hR kk
  case arraylength =>
    simp only [xm_ck, decide_eq_true_eq] at hck
    subst hck
    exact xs_alen hexec hb hK hX hbl hbA hd hx hR kk
  case invokestatic v =>
    simp only [xm_ck, decide_eq_true_eq] at hck
    subst hck
    cases ha : Nat.ble 200 a with
    | true =>
      have h200 := Nat.le_of_ble_eq_true ha
      simp only [xm_ex, ha] at hx
      exact xs_copy hexec hb hml hown hK (hlk h200) (hcp v rfl h200).1 (hcp v rfl h200).2 hd hx hR kk
    | false =>
      simp only [xm_ex, ha] at hx
      exact absurd hx xm_gd_call
  case invokevirtual v =>
    cases ha : Nat.ble 200 a with
    | true =>
      have h200 := Nat.le_of_ble_eq_true ha
      simp only [xm_ex, ha] at hx
      exact hstr v rfl h200 hx
    | false =>
      simp only [xm_ex, ha] at hx
      exact absurd hx xm_gd_callv
  case ifCond q o =>
    exact absurd hx xm_gd_b1
  case if_icmp q o =>
    exact absurd hx xm_gd_b2
  case ireturn =>
    exact absurd hx xm_gd_iret
  case lreturn =>
    exact absurd hx xm_gd_lret
  case areturn =>
    exact absurd hx xm_gd_aret
  case return_ =>
    exact absurd hx xm_gd_vret
  case new v =>
    exact absurd hx xm_gd_thr
  all_goals cases hx
-- branches
theorem xs_br (hexec : p.tables.exec = Jvm.exec) (hb : c.code = cc) (hck : xm_ck nL pc i n a b ca da = true) (hd : decode cc pc = .ok (i, n)) {z : Bool} {u v : xm_S}
    (hx : xm_ex rs i pc (pc + n) a b ca da L st σ c0 = oB z u v) (hR : xRel D cl cs ad A H0 N xs nL (pc, L, st, σ, c0) ls H locs)
    (k1 : z = true → ∀ (ls' : Array Slot) (H' : Heap) (locs' : List Loc), xRel D cl cs ad A H0 N xs nL u ls' H' locs' → W p l e R s m args below meth c H' locs' cells slots Q (F0 m u.1 ls' (u.2.2.1.map (xv ad))))
    (k2 : z = false → ∀ (ls' : Array Slot) (H' : Heap) (locs' : List Loc), xRel D cl cs ad A H0 N xs nL v ls' H' locs' → W p l e R s m args below meth c H' locs' cells slots Q (F0 m v.1 ls' (v.2.2.1.map (xv ad)))) :
    W p l e R s m args below meth c H locs cells slots Q (F0 m pc ls (st.map (xv ad))) := by
  rcases ki2 (ki_of hx rfl (by decide)) with ⟨q, o, rfl⟩ | ⟨q, o, rfl⟩
  case inl =>
    simp only [xm_ck, Bool.and_eq_true, decide_eq_true_eq] at hck
    obtain ⟨rfl, ht⟩ := hck
    simp only [xm_ex] at hx
    unfold xm_b1 at hx
    split at hx
    · rename_i x r
      simp only [Option.some.injEq, Sum.inr.injEq, Sum.inl.injEq, Prod.mk.injEq] at hx
      obtain ⟨hz, rfl, rfl⟩ := hx
      have t1 : xm_c1 q x = true → W p l e R s m args below meth c H locs cells slots Q (F0 m a ls (r.map (xv ad))) := fun h => k1 (hz.symm.trans h) ls H locs ⟨hR.1, hR.2.1, hR.2.2.1, hR.2.2.2⟩
      have t2 : xm_c1 q x = false → W p l e R s m args below meth c H locs cells slots Q (F0 m (pc + 3) ls (r.map (xv ad))) := fun h => k2 (hz.symm.trans h) ls H locs ⟨hR.1, hR.2.1, hR.2.2.1, hR.2.2.2⟩
      cases q
      · exact lv_if_eq hexec hb hd ht (fun h => t1 (decide_eq_true h)) (fun h => t2 (decide_eq_false h))
      · exact lv_if_ne hexec hb hd ht (fun h => t1 (decide_eq_true h)) (fun h => t2 (decide_eq_false (fun q => q h)))
      · exact lv_if_lt hexec hb hd ht (fun h => t1 (decide_eq_true h)) (fun h => t2 (decide_eq_false h))
      · exact lv_if_ge hexec hb hd ht (fun h => t1 (decide_eq_true h)) (fun h => t2 (decide_eq_false h))
      · exact lv_if_gt hexec hb hd ht (fun h => t1 (decide_eq_true h)) (fun h => t2 (decide_eq_false h))
      · exact lv_if_le hexec hb hd ht (fun h => t1 (decide_eq_true h)) (fun h => t2 (decide_eq_false h))
    · cases hx
  case inr =>
    simp only [xm_ck, Bool.and_eq_true, decide_eq_true_eq] at hck
    obtain ⟨rfl, ht⟩ := hck
    simp only [xm_ex] at hx
    unfold xm_b2 at hx
    split at hx
    · rename_i y x r
      simp only [Option.some.injEq, Sum.inr.injEq, Sum.inl.injEq, Prod.mk.injEq] at hx
      obtain ⟨hz, rfl, rfl⟩ := hx
      have t1 : xm_c2 q x y = true → W p l e R s m args below meth c H locs cells slots Q (F0 m a ls (r.map (xv ad))) := fun h => k1 (hz.symm.trans h) ls H locs ⟨hR.1, hR.2.1, hR.2.2.1, hR.2.2.2⟩
      have t2 : xm_c2 q x y = false → W p l e R s m args below meth c H locs cells slots Q (F0 m (pc + 3) ls (r.map (xv ad))) := fun h => k2 (hz.symm.trans h) ls H locs ⟨hR.1, hR.2.1, hR.2.2.1, hR.2.2.2⟩
      cases q
      · exact lv_icmp_eq hexec hb hd ht (fun h => t1 (decide_eq_true h)) (fun h => t2 (decide_eq_false h))
      · exact lv_icmp_ne hexec hb hd ht (fun h => t1 (decide_eq_true h)) (fun h => t2 (decide_eq_false (fun q => q h)))
      · exact lv_icmp_lt hexec hb hd ht (fun h => t1 (decide_eq_true h)) (fun h => t2 (decide_eq_false h))
      · exact lv_icmp_ge hexec hb hd ht (fun h => t1 (decide_eq_true h)) (fun h => t2 (decide_eq_false h))
      · exact lv_icmp_gt hexec hb hd ht (fun h => t1 (decide_eq_true h)) (fun h => t2 (decide_eq_false h))
      · exact lv_icmp_le hexec hb hd ht (fun h => t1 (decide_eq_true h)) (fun h => t2 (decide_eq_false h))
    · cases hx
end X5
