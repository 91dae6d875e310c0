-- arraycopy; all instructions that go on (own work)
theorem xm_cp_cpy (σ : xm_M) (k j k1 j1 : Nat) : (xm_cp σ k j k1 j1).1 k1 j1 = va_cpy (σ.1 k j) (σ.1 k1 j1) 0 0 3 := by
  funext n
  simp only [xm_cp, va_cpy]
  rcases (by omega : n = 0 ∨ n = 1 ∨ n = 2 ∨ 3 ≤ n) with h | h | h | h
  · subst h
    rw [xm_w_ne _ _ (by omega), xm_w_ne _ _ (by omega), xm_w_self]
    rfl
  · subst h
    rw [xm_w_ne _ _ (by omega), xm_w_self]
    rfl
  · subst h
    rw [xm_w_self]
    rfl
  · rw [xm_w_ne _ _ (by omega), xm_w_ne _ _ (by omega), xm_w_ne _ _ (by omega), if_neg (by omega)]
theorem xe_cp {cs : Nat → ClassId} {ad : Nat → Nat → Nat} {σ : xm_M} {k j k1 j1 : Nat} : ∀ q : Nat × Nat, q ≠ (k1, j1) → xe cs ad (xm_cp σ k j k1 j1) q = xe cs ad σ q := by
  intro q hq
  unfold xm_cp
  rw [xe_w q hq, xe_w q hq, xe_w q hq]
-- what the tables must say of an instruction that goes on
def xlk (ad : Nat → Nat → Nat) (own : String) (cl : List vw_C) (s : State) (i : Jvm.ClassFile.Instr) (a b : Nat) (c : Int32) (d : Int64) : Prop := match i with
  | .ldc idx => (a = 0 → va_Nw (.constant own idx c) s) ∧ (a ≠ 0 → vk_R own idx "XYE" (ad 33 0) s)
  | .ldc2_w idx => va_Nw (.constantLong own idx d) s
  | .getfield idx => xfk own cl idx a b s
  | .putfield idx => xfk own cl idx a b s ∧ ∀ (C : String) (T : u_T) (n : Nat), cl[xm_nth xm_cis b]? = some (C, T, n) → (T a).2.2.2 = false
  | .invokestatic idx => 200 ≤ a → va_Nw (.methodLink own idx arraycopyName) s ∧ va_Nw (.native arraycopyName) s ∧ va_Nw (.static arraycopyName) s ∧ va_Nw (.initialized "java/lang/System") s
  | _ => True
section X4
variable {p : Program} {l : Launch} {e : Env} {R : Room} {s : State} {m : MethodId} {args : Array Value} {below : List Frame} {meth : Method} {c : Code} {H : Heap} {locs : List Loc} {cells slots : Nat} {Q : State → Prop}
variable {D : va_G} {cl : List vw_C} {cs : Nat → ClassId} {ad : Nat → Nat → Nat} {A : Nat → Prop} {H0 : Heap} {N : Nat} {xs : Nat → Int32} {nL pc : Nat} {ls : Array Slot} {L : xm_L} {st : List xm_V} {σ : xm_M} {c0 : Bool} {t : xm_S} {cc : ByteArray} {own : String} {idx : Nat}
theorem xs_copy (hexec : p.tables.exec = Jvm.exec) (hb : c.code = cc) (hml : c.maxLocals = nL) (hown : s.vm.findClass own = some m.cls) (hK : va_K D cl (xtys cs) s) (hw : va_Nw (.methodLink own idx arraycopyName) s ∧ va_Nw (.native arraycopyName) s ∧ va_Nw (.static arraycopyName) s ∧ va_Nw (.initialized "java/lang/System") s)
    (hfr : 1 ≤ R.frames) (hlo : nativeFrameWords "java/lang/System" "arraycopy" 5 + 11 ≤ R.locals) (hd : decode cc pc = .ok (.invokestatic idx, 3))
    (hx : xm_gd (xm_copy xm_ak xm_al (pc + 3) L st σ) = some t) (hR : xRel D cl cs ad A H0 N xs nL (pc, L, st, σ, c0) ls H locs)
    (kk : ∀ (ls' : Array Slot) (H' : Heap) (locs' : List Loc), xRel D cl cs ad A H0 N xs nL t ls' H' locs' → W p l e R s m args below meth c H' locs' cells slots Q (F0 m t.1 ls' (t.2.2.1.map (xv ad)))) :
    W p l e R s m args below meth c H locs cells slots Q (F0 m pc ls (st.map (xv ad))) := by
  unfold xm_copy at hx
  split at hx
  · rename_i n dp k1 j1 sp k j
    cases hz : (Nat.beq (xm_nth xm_ak k) 1 && Nat.beq (xm_nth xm_al k) 3) && (Nat.beq (xm_nth xm_ak k1) 1 && Nat.beq (xm_nth xm_al k1) 3) with
    | false => rw [hz] at hx; cases hx
    | true =>
      rw [hz] at hx
      simp only [Bool.and_eq_true] at hz
      obtain ⟨⟨y1, y2⟩, y3, y4⟩ := hz
      have z1 := Nat.eq_of_beq_eq_true y1
      have z2 := Nat.eq_of_beq_eq_true y2
      have z3 := Nat.eq_of_beq_eq_true y3
      have z4 := Nat.eq_of_beq_eq_true y4
      simp only [cond_true, xm_gd] at hx
      cases hg : ((n == 3) && ((dp == 0) && (sp == 0))) with
      | false => rw [hg] at hx; cases hx
      | true =>
        rw [hg] at hx
        cases hx
        simp only [Bool.and_eq_true, beq_iff_eq] at hg
        obtain ⟨rfl, rfl, rfl⟩ := hg
        have h1 := (xoks_cons _ _).mp hR.2.2.1
        have h2 := (xoks_cons _ _).mp h1.2
        have h3 := (xoks_cons _ _).mp h2.2
        have h4 := (xoks_cons _ _).mp h3.2
        have h5 := (xoks_cons _ _).mp h4.2
        have hpr := xprs_of h5.1 z1 (by decide)
        have hpr1 := xprs_of h3.1 z3 (by decide)
        have h32 : k1 ≠ 32 := by have := xprs_lt hpr1; omega
        obtain ⟨q0, -, hq0⟩ := xw_get (cs := cs) (ad := ad) (σ := σ) hpr
        obtain ⟨q1, hi1, hq1⟩ := xw_get (cs := cs) (ad := ad) (σ := σ) hpr1
        rw [xe_int z1 (Or.inl rfl), z2] at hq0
        rw [xe_int z3 (Or.inl rfl), z4] at hq1
        refine va_copyi (rest := []) hexec hb (hml.trans hR.1.1.symm) hown (va_Nw.use rfl hw.1) (va_Nw.use rfl hw.2.1) (va_Nw.use rfl hw.2.2.1) (va_Nw.use rfl hw.2.2.2) hK hR.2.2.2.1.1 hR.2.2.2.1.2.1 hR.2.2.2.1.2.2.1 q0 q1 0 0 hq0 hq1 (ty := .int) rfl rfl rfl (by decide) (by decide) (by decide) (by decide) (by decide) (fun i hi => rfl) hfr (by simpa using hlo) hd
          fun H1 locs1 hP hD hS => kk ls H1 locs1 ⟨hR.1, hR.2.1, h5.2, xMem_set hR.2.2.2.1 hi1 ?_ xe_cp rfl (fun n => ?_) hP hD hS, fun z => by cases z⟩
        · rw [xe_int z3 (Or.inl rfl), z4, xm_cp_cpy]
          rfl
        · unfold xm_cp
          rw [xm_w_ne _ _ (fun z => h32 z.1.symm), xm_w_ne _ _ (fun z => h32 z.1.symm), xm_w_ne _ _ (fun z => h32 z.1.symm)]
  · cases hx
end X4
