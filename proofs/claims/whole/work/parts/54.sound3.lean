-- arrays (own work)
abbrev xtys (cs : Nat → ClassId) : List (ClassId × FieldType) := [(cs 1, .int), (cs 2, .char), (cs 3, .long), (cs 4, .object "LayerFeeder$Block")]
theorem xprs_ak5 {k j : Nat} (h : xok k j) (h5 : xm_nth xm_ak k = 5) : k = 32 ∧ j = 0 := by
  rcases h with h | h | h
  · have : ∀ q ∈ xprs, xm_nth xm_ak q.1 ≠ 5 := by decide
    exact absurd h5 (this _ h)
  · cases h; exact ⟨rfl, rfl⟩
  · cases h; cases h5
theorem xprs_of {k j n : Nat} (h : xok k j) (hk : xm_nth xm_ak k = n) (hn : n ≠ 5 ∧ n ≠ 7) : (k, j) ∈ xprs := by
  rcases h with h | h | h
  · exact h
  · cases h
    exact absurd hk.symm hn.1
  · cases h
    exact absurd hk.symm hn.2
theorem xprs_B : ∀ n, n < 8 → (10, n) ∈ xprs := by decide
section X3
variable {p : Program} {l : Launch} {e : Env} {R : Room} {s : State} {m : MethodId} {args : Array Value} {below : List Frame} {meth : Method} {c : Code} {H : Heap} {locs : List Loc} {cells slots : Nat} {Q : State → Prop}
variable {D : va_G} {cl : List vw_C} {cs : Nat → ClassId} {ad : Nat → Nat → Nat} {A : Nat → Prop} {H0 : Heap} {N : Nat} {xs : Nat → Int32} {nL pc : Nat} {ls : Array Slot} {L : xm_L} {st : List xm_V} {σ : xm_M} {c0 : Bool} {t : xm_S} {cc : ByteArray}
theorem xs_iald (hexec : p.tables.exec = Jvm.exec) (hb : c.code = cc) (hK : va_K D cl (xtys cs) s) (hX : va_X (ad 32 0) N xs s H0) (hbl : ad 32 0 < H0.size) (hbA : ¬ A (ad 32 0)) (hd : decode cc pc = .ok (.iaload, 1))
    (hx : xm_gd (xm_als xm_ak xm_al 1 (pc + 1) L st σ c0) = some t) (hR : xRel D cl cs ad A H0 N xs nL (pc, L, st, σ, c0) ls H locs)
    (kk : ∀ (ls' : Array Slot) (H' : Heap) (locs' : List Loc), xRel D cl cs ad A H0 N xs nL t ls' H' locs' → W p l e R s m args below meth c H' locs' cells slots Q (F0 m t.1 ls' (t.2.2.1.map (xv ad)))) :
    W p l e R s m args below meth c H locs cells slots Q (F0 m pc ls (st.map (xv ad))) := by
  unfold xm_als at hx
  split at hx
  · rename_i i k j r
    have h2 := (xoks_cons _ _).mp hR.2.2.1
    have h3 := (xoks_cons _ _).mp h2.2
    by_cases e1 : xm_nth xm_ak k = 1
    · rw [e1] at hx
      change xm_gd (oC (xm_in i (xm_nth xm_al k)) (pc + 1, L, xI (σ.1 k j i.toNatClampNeg) :: r, σ, c0)) = some t at hx
      simp only [xm_gd] at hx
      cases hin : xm_in i (xm_nth xm_al k) with
      | false => rw [hin] at hx; cases hx
      | true =>
        rw [hin] at hx
        cases hx
        obtain ⟨q0, -, hq0⟩ := xw_get (cs := cs) (ad := ad) (σ := σ) (xprs_of h3.1 e1 (by decide))
        rw [xe_int e1 (Or.inl rfl)] at hq0
        exact va_iald hexec hb hK hR.2.2.2.1.1 q0 0 hq0 rfl (xm_in_spec hin) hd (kk ls H locs ⟨hR.1, hR.2.1, h3.2, hR.2.2.2⟩)
    · by_cases e5 : xm_nth xm_ak k = 5
      · rw [e5] at hx
        change xm_gd (oC (xm_in i σ.2.2) (pc + 1, L, xI (σ.1 k j i.toNatClampNeg) :: r, σ, c0)) = some t at hx
        simp only [xm_gd] at hx
        obtain ⟨rfl, rfl⟩ := xprs_ak5 h3.1 e5
        cases hin : xm_in i σ.2.2 with
        | false => rw [hin] at hx; cases hx
        | true =>
          rw [hin] at hx
          cases hx
          have hin' := xm_in_spec hin
          rw [hR.2.2.2.1.2.2.2.1] at hin'
          have hlt : i.toNatClampNeg < N := Nat.not_le.mp fun q => hin' (Or.inr q)
          refine va_sld hexec hb hX hbl hbA hR.2.2.2.1.2.2.1 hin' hd ?_
          rw [← hR.2.2.2.1.2.2.2.2 _ hlt]
          exact kk ls H locs ⟨hR.1, hR.2.1, h3.2, hR.2.2.2⟩
      · exfalso
        unfold xm_ald at hx
        have z1 : Nat.beq 1 (xm_nth xm_ak k) = false := by
          cases hz : Nat.beq 1 (xm_nth xm_ak k) with
          | false => rfl
          | true => exact absurd (Nat.eq_of_beq_eq_true hz).symm e1
        have z5 : Nat.beq (xm_nth xm_ak k) 5 = false := by
          cases hz : Nat.beq (xm_nth xm_ak k) 5 with
          | false => rfl
          | true => exact absurd (Nat.eq_of_beq_eq_true hz) e5
        rw [z1, z5] at hx
        cases hx
  · cases hx
theorem xs_ald_no {w k j i : Nat} {ii : Int32} {r : List xm_V} (hw : w = 2 ∨ w = 3 ∨ w = 4) (hne : xm_nth xm_ak k ≠ w) : xm_gd (xm_ald w (xm_nth xm_ak k) i k j (pc + 1) ii L r σ c0) ≠ some t := by
  intro hx
  unfold xm_ald at hx
  have z1 : Nat.beq w (xm_nth xm_ak k) = false := by
    cases hz : Nat.beq w (xm_nth xm_ak k) with
    | false => rfl
    | true => exact absurd (Nat.eq_of_beq_eq_true hz).symm hne
  have z2 : Nat.beq w 1 = false := by rcases hw with rfl | rfl | rfl <;> rfl
  rw [z1, z2] at hx
  cases hx
theorem xs_cald (hexec : p.tables.exec = Jvm.exec) (hb : c.code = cc) (hK : va_K D cl (xtys cs) s) (hd : decode cc pc = .ok (.caload, 1))
    (hx : xm_gd (xm_als xm_ak xm_al 2 (pc + 1) L st σ c0) = some t) (hR : xRel D cl cs ad A H0 N xs nL (pc, L, st, σ, c0) ls H locs)
    (kk : ∀ (ls' : Array Slot) (H' : Heap) (locs' : List Loc), xRel D cl cs ad A H0 N xs nL t ls' H' locs' → W p l e R s m args below meth c H' locs' cells slots Q (F0 m t.1 ls' (t.2.2.1.map (xv ad)))) :
    W p l e R s m args below meth c H locs cells slots Q (F0 m pc ls (st.map (xv ad))) := by
  unfold xm_als at hx
  split at hx
  · rename_i i k j r
    have h2 := (xoks_cons _ _).mp hR.2.2.1
    have h3 := (xoks_cons _ _).mp h2.2
    by_cases e1 : xm_nth xm_ak k = 2
    · rw [e1] at hx
      change xm_gd (oC (xm_in i (xm_nth xm_al k)) (pc + 1, L, xI (σ.1 k j i.toNatClampNeg) :: r, σ, c0)) = some t at hx
      simp only [xm_gd] at hx
      cases hin : xm_in i (xm_nth xm_al k) with
      | false => rw [hin] at hx; cases hx
      | true =>
        rw [hin] at hx
        cases hx
        obtain ⟨q0, -, hq0⟩ := xw_get (cs := cs) (ad := ad) (σ := σ) (xprs_of h3.1 e1 (by decide))
        rw [xe_int e1 (Or.inr rfl)] at hq0
        exact va_cald hexec hb hK hR.2.2.2.1.1 q0 1 hq0 rfl (xm_in_spec hin) hd (kk ls H locs ⟨hR.1, hR.2.1, h3.2, hR.2.2.2⟩)
    · exact absurd hx (xs_ald_no (Or.inl rfl) e1)
  · cases hx
theorem xs_lald (hexec : p.tables.exec = Jvm.exec) (hb : c.code = cc) (hK : va_K D cl (xtys cs) s) (hd : decode cc pc = .ok (.laload, 1))
    (hx : xm_gd (xm_als xm_ak xm_al 3 (pc + 1) L st σ c0) = some t) (hR : xRel D cl cs ad A H0 N xs nL (pc, L, st, σ, c0) ls H locs)
    (kk : ∀ (ls' : Array Slot) (H' : Heap) (locs' : List Loc), xRel D cl cs ad A H0 N xs nL t ls' H' locs' → W p l e R s m args below meth c H' locs' cells slots Q (F0 m t.1 ls' (t.2.2.1.map (xv ad)))) :
    W p l e R s m args below meth c H locs cells slots Q (F0 m pc ls (st.map (xv ad))) := by
  unfold xm_als at hx
  split at hx
  · rename_i i k j r
    have h2 := (xoks_cons _ _).mp hR.2.2.1
    have h3 := (xoks_cons _ _).mp h2.2
    by_cases e1 : xm_nth xm_ak k = 3
    · rw [e1] at hx
      change xm_gd (oC (xm_in i (xm_nth xm_al k)) (pc + 1, L, xJ (σ.2.1 k j i.toNatClampNeg) :: r, σ, c0)) = some t at hx
      simp only [xm_gd] at hx
      cases hin : xm_in i (xm_nth xm_al k) with
      | false => rw [hin] at hx; cases hx
      | true =>
        rw [hin] at hx
        cases hx
        obtain ⟨q0, -, hq0⟩ := xw_get (cs := cs) (ad := ad) (σ := σ) (xprs_of h3.1 e1 (by decide))
        rw [xe_long e1] at hq0
        exact va_lald hexec hb hK hR.2.2.2.1.1 q0 2 hq0 rfl (xm_in_spec hin) hd (kk ls H locs ⟨hR.1, hR.2.1, h3.2, hR.2.2.2⟩)
    · exact absurd hx (xs_ald_no (Or.inr (Or.inl rfl)) e1)
  · cases hx
theorem xs_aald (hexec : p.tables.exec = Jvm.exec) (hb : c.code = cc) (hK : va_K D cl (xtys cs) s) (hd : decode cc pc = .ok (.aaload, 1))
    (hx : xm_gd (xm_als xm_ak xm_al 4 (pc + 1) L st σ c0) = some t) (hR : xRel D cl cs ad A H0 N xs nL (pc, L, st, σ, c0) ls H locs)
    (kk : ∀ (ls' : Array Slot) (H' : Heap) (locs' : List Loc), xRel D cl cs ad A H0 N xs nL t ls' H' locs' → W p l e R s m args below meth c H' locs' cells slots Q (F0 m t.1 ls' (t.2.2.1.map (xv ad)))) :
    W p l e R s m args below meth c H locs cells slots Q (F0 m pc ls (st.map (xv ad))) := by
  unfold xm_als at hx
  split at hx
  · rename_i i k j r
    have h2 := (xoks_cons _ _).mp hR.2.2.1
    have h3 := (xoks_cons _ _).mp h2.2
    by_cases e1 : xm_nth xm_ak k = 4
    · rw [e1] at hx
      change xm_gd (oC (xm_in i (xm_nth xm_al k)) (pc + 1, L, xR 10 i.toNatClampNeg :: r, σ, c0)) = some t at hx
      simp only [xm_gd] at hx
      cases hin : xm_in i (xm_nth xm_al k) with
      | false => rw [hin] at hx; cases hx
      | true =>
        rw [hin] at hx
        cases hx
        have hpr := xprs_of h3.1 e1 (by decide)
        obtain ⟨q0, -, hq0⟩ := xw_get (cs := cs) (ad := ad) (σ := σ) hpr
        rw [xe_ref e1] at hq0
        have hl8 : xm_nth xm_al k = 8 := by
          have : ∀ q ∈ xprs, xm_nth xm_ak q.1 = 4 → xm_nth xm_al q.1 = 8 := by decide
          exact this _ hpr e1
        have hin' := xm_in_spec hin
        have hlt : i.toNatClampNeg < 8 := by
          rw [hl8] at hin'
          exact Nat.not_le.mp fun q => hin' (Or.inr q)
        exact va_aldq hexec hb hK hR.2.2.2.1.1 q0 3 hq0 rfl hin' hd (kk ls H locs ⟨hR.1, hR.2.1, (xoks_cons _ _).mpr ⟨Or.inl (xprs_B _ hlt), h3.2⟩, hR.2.2.2⟩)
    · exact absurd hx (xs_ald_no (Or.inr (Or.inr rfl)) e1)
  · cases hx
theorem xs_iast (hexec : p.tables.exec = Jvm.exec) (hb : c.code = cc) (hK : va_K D cl (xtys cs) s) (hd : decode cc pc = .ok (.iastore, 1))
    (hx : xm_gd (xm_ast xm_ak xm_al 1 (pc + 1) L st σ) = some t) (hR : xRel D cl cs ad A H0 N xs nL (pc, L, st, σ, c0) ls H locs)
    (kk : ∀ (ls' : Array Slot) (H' : Heap) (locs' : List Loc), xRel D cl cs ad A H0 N xs nL t ls' H' locs' → W p l e R s m args below meth c H' locs' cells slots Q (F0 m t.1 ls' (t.2.2.1.map (xv ad)))) :
    W p l e R s m args below meth c H locs cells slots Q (F0 m pc ls (st.map (xv ad))) := by
  unfold xm_ast at hx
  split at hx
  · rename_i x i k j r
    have h2 := (xoks_cons _ _).mp hR.2.2.1
    have h3 := (xoks_cons _ _).mp h2.2
    have h4 := (xoks_cons _ _).mp h3.2
    by_cases e1 : xm_nth xm_ak k = 1
    · rw [e1] at hx
      change xm_gd (oC (xm_in i (xm_nth xm_al k)) (pc + 1, L, r, xm_w σ k j i.toNatClampNeg x, false)) = some t at hx
      simp only [xm_gd] at hx
      cases hin : xm_in i (xm_nth xm_al k) with
      | false => rw [hin] at hx; cases hx
      | true =>
        rw [hin] at hx
        cases hx
        have hpr := xprs_of h4.1 e1 (by decide)
        have h32 : k ≠ 32 := by have := xprs_lt hpr; omega
        obtain ⟨q0, hi0, hq0⟩ := xw_get (cs := cs) (ad := ad) (σ := σ) hpr
        rw [xe_int e1 (Or.inl rfl)] at hq0
        refine va_iast hexec hb hK hR.2.2.2.1.1 hR.2.2.2.1.2.1 hR.2.2.2.1.2.2.1 q0 0 hq0 rfl (xm_in_spec hin) hd fun H1 locs1 hP hD hS => kk ls H1 locs1 ⟨hR.1, hR.2.1, h4.2, xMem_set hR.2.2.2.1 hi0 ?_ xe_w rfl (fun n => xm_w_ne _ _ (fun z => h32 z.1.symm)) hP hD hS, fun z => by cases z⟩
        rw [xe_int e1 (Or.inl rfl), xm_w_upd]
    · exfalso
      have z1 : Nat.beq 1 (xm_nth xm_ak k) = false := by
        cases hz : Nat.beq 1 (xm_nth xm_ak k) with
        | false => rfl
        | true => exact absurd (Nat.eq_of_beq_eq_true hz).symm e1
      rw [z1] at hx
      cases hx
  · cases hx
  · cases hx
theorem xs_cast (hexec : p.tables.exec = Jvm.exec) (hb : c.code = cc) (hK : va_K D cl (xtys cs) s) (hd : decode cc pc = .ok (.castore, 1))
    (hx : xm_gd (xm_ast xm_ak xm_al 2 (pc + 1) L st σ) = some t) (hR : xRel D cl cs ad A H0 N xs nL (pc, L, st, σ, c0) ls H locs)
    (kk : ∀ (ls' : Array Slot) (H' : Heap) (locs' : List Loc), xRel D cl cs ad A H0 N xs nL t ls' H' locs' → W p l e R s m args below meth c H' locs' cells slots Q (F0 m t.1 ls' (t.2.2.1.map (xv ad)))) :
    W p l e R s m args below meth c H locs cells slots Q (F0 m pc ls (st.map (xv ad))) := by
  unfold xm_ast at hx
  split at hx
  · rename_i x i k j r
    have h2 := (xoks_cons _ _).mp hR.2.2.1
    have h3 := (xoks_cons _ _).mp h2.2
    have h4 := (xoks_cons _ _).mp h3.2
    by_cases e1 : xm_nth xm_ak k = 2
    · rw [e1] at hx
      change xm_gd (oC (xm_in i (xm_nth xm_al k)) (pc + 1, L, r, xm_w σ k j i.toNatClampNeg (xm_nar x), false)) = some t at hx
      simp only [xm_gd] at hx
      cases hin : xm_in i (xm_nth xm_al k) with
      | false => rw [hin] at hx; cases hx
      | true =>
        rw [hin] at hx
        cases hx
        have hpr := xprs_of h4.1 e1 (by decide)
        have h32 : k ≠ 32 := by have := xprs_lt hpr; omega
        obtain ⟨q0, hi0, hq0⟩ := xw_get (cs := cs) (ad := ad) (σ := σ) hpr
        rw [xe_int e1 (Or.inr rfl)] at hq0
        refine va_cast hexec hb hK hR.2.2.2.1.1 hR.2.2.2.1.2.1 hR.2.2.2.1.2.2.1 q0 1 hq0 rfl (xm_in_spec hin) hd fun H1 locs1 hP hD hS => kk ls H1 locs1 ⟨hR.1, hR.2.1, h4.2, xMem_set hR.2.2.2.1 hi0 ?_ xe_w rfl (fun n => xm_w_ne _ _ (fun z => h32 z.1.symm)) hP hD hS, fun z => by cases z⟩
        rw [xe_int e1 (Or.inr rfl), xm_w_upd]
        rfl
    · exfalso
      have z1 : Nat.beq 2 (xm_nth xm_ak k) = false := by
        cases hz : Nat.beq 2 (xm_nth xm_ak k) with
        | false => rfl
        | true => exact absurd (Nat.eq_of_beq_eq_true hz).symm e1
      rw [z1] at hx
      cases hx
  · cases hx
  · cases hx
theorem xs_last (hexec : p.tables.exec = Jvm.exec) (hb : c.code = cc) (hK : va_K D cl (xtys cs) s) (hd : decode cc pc = .ok (.lastore, 1))
    (hx : xm_gd (xm_ast xm_ak xm_al 3 (pc + 1) L st σ) = some t) (hR : xRel D cl cs ad A H0 N xs nL (pc, L, st, σ, c0) ls H locs)
    (kk : ∀ (ls' : Array Slot) (H' : Heap) (locs' : List Loc), xRel D cl cs ad A H0 N xs nL t ls' H' locs' → W p l e R s m args below meth c H' locs' cells slots Q (F0 m t.1 ls' (t.2.2.1.map (xv ad)))) :
    W p l e R s m args below meth c H locs cells slots Q (F0 m pc ls (st.map (xv ad))) := by
  unfold xm_ast at hx
  split at hx
  · rename_i x i k j r
    exfalso
    cases hz : Nat.beq 3 (xm_nth xm_ak k) with
    | false => rw [hz] at hx; cases hx
    | true => rw [hz] at hx; cases hx
  · rename_i x i k j r
    have h2 := (xoks_cons _ _).mp hR.2.2.1
    have h3 := (xoks_cons _ _).mp h2.2
    have h4 := (xoks_cons _ _).mp h3.2
    by_cases e1 : xm_nth xm_ak k = 3
    · rw [e1] at hx
      change xm_gd (oC (xm_in i (xm_nth xm_al k)) (pc + 1, L, r, xm_wl σ k j i.toNatClampNeg x, false)) = some t at hx
      simp only [xm_gd] at hx
      cases hin : xm_in i (xm_nth xm_al k) with
      | false => rw [hin] at hx; cases hx
      | true =>
        rw [hin] at hx
        cases hx
        have hpr := xprs_of h4.1 e1 (by decide)
        obtain ⟨q0, hi0, hq0⟩ := xw_get (cs := cs) (ad := ad) (σ := σ) hpr
        rw [xe_long e1] at hq0
        refine va_last hexec hb hK hR.2.2.2.1.1 hR.2.2.2.1.2.1 hR.2.2.2.1.2.2.1 q0 2 hq0 rfl (xm_in_spec hin) hd fun H1 locs1 hP hD hS => kk ls H1 locs1 ⟨hR.1, hR.2.1, h4.2, xMem_set hR.2.2.2.1 hi0 ?_ xe_wl rfl (fun n => rfl) hP hD hS, fun z => by cases z⟩
        rw [xe_long e1, xm_wl_upd]
    · exfalso
      have z1 : Nat.beq 3 (xm_nth xm_ak k) = false := by
        cases hz : Nat.beq 3 (xm_nth xm_ak k) with
        | false => rfl
        | true => exact absurd (Nat.eq_of_beq_eq_true hz).symm e1
      rw [z1] at hx
      cases hx
  · cases hx
theorem xs_alen (hexec : p.tables.exec = Jvm.exec) (hb : c.code = cc) (hK : va_K D cl (xtys cs) s) (hX : va_X (ad 32 0) N xs s H0) (hbl : ad 32 0 < H0.size) (hbA : ¬ A (ad 32 0)) (hd : decode cc pc = .ok (.arraylength, 1))
    (hx : xm_gd (xm_alen xm_ak xm_al (pc + 1) L st σ c0) = some t) (hR : xRel D cl cs ad A H0 N xs nL (pc, L, st, σ, c0) ls H locs)
    (kk : ∀ (ls' : Array Slot) (H' : Heap) (locs' : List Loc), xRel D cl cs ad A H0 N xs nL t ls' H' locs' → W p l e R s m args below meth c H' locs' cells slots Q (F0 m t.1 ls' (t.2.2.1.map (xv ad)))) :
    W p l e R s m args below meth c H locs cells slots Q (F0 m pc ls (st.map (xv ad))) := by
  unfold xm_alen at hx
  split at hx
  · rename_i k j r
    have h3 := (xoks_cons _ _).mp hR.2.2.1
    by_cases e5 : xm_nth xm_ak k = 5
    · rw [e5] at hx
      change xm_gd (oN (pc + 1, L, xI (Int32.ofNat σ.2.2) :: r, σ, c0)) = some t at hx
      obtain ⟨rfl, rfl⟩ := xprs_ak5 h3.1 e5
      cases hx
      refine va_slen hexec hb hX hbl hbA hR.2.2.2.1.2.2.1 hd ?_
      rw [← hR.2.2.2.1.2.2.2.1]
      exact kk ls H locs ⟨hR.1, hR.2.1, h3.2, hR.2.2.2⟩
    · have z5 : Nat.beq (xm_nth xm_ak k) 5 = false := by
        cases hz : Nat.beq (xm_nth xm_ak k) 5 with
        | false => rfl
        | true => exact absurd (Nat.eq_of_beq_eq_true hz) e5
      rw [z5] at hx
      simp only [cond_false] at hx
      cases z0 : Nat.beq (xm_nth xm_ak k) 0 || Nat.beq (xm_nth xm_ak k) 7 with
      | true => rw [z0] at hx; cases hx
      | false =>
        rw [z0] at hx
        cases hx
        have hpr := xprs_of h3.1 rfl ⟨e5, fun e7 => by rw [e7] at z0; cases z0⟩
        obtain ⟨q0, -, hq0⟩ := xw_get (cs := cs) (ad := ad) (σ := σ) hpr
        have hcase : xm_nth xm_ak k = 0 ∨ xm_nth xm_ak k = 1 ∨ xm_nth xm_ak k = 2 ∨ xm_nth xm_ak k = 3 ∨ xm_nth xm_ak k = 4 := by
          have : ∀ q ∈ xprs, xm_nth xm_ak q.1 = 0 ∨ xm_nth xm_ak q.1 = 1 ∨ xm_nth xm_ak q.1 = 2 ∨ xm_nth xm_ak q.1 = 3 ∨ xm_nth xm_ak q.1 = 4 := by decide
          exact this _ hpr
        rcases hcase with h0 | h1 | h2 | h4 | h5
        · rw [h0] at z0; cases z0
        · rw [xe_int h1 (Or.inl rfl)] at hq0
          exact va_alen hexec hb hK hR.2.2.2.1.1 q0 0 hq0 (ty := .int) rfl rfl hd (kk ls H locs ⟨hR.1, hR.2.1, h3.2, hR.2.2.2⟩)
        · rw [xe_int h2 (Or.inr rfl)] at hq0
          exact va_alen hexec hb hK hR.2.2.2.1.1 q0 1 hq0 (ty := .char) rfl rfl hd (kk ls H locs ⟨hR.1, hR.2.1, h3.2, hR.2.2.2⟩)
        · rw [xe_long h4] at hq0
          exact va_alen hexec hb hK hR.2.2.2.1.1 q0 2 hq0 (ty := .long) rfl rfl hd (kk ls H locs ⟨hR.1, hR.2.1, h3.2, hR.2.2.2⟩)
        · rw [xe_ref h5] at hq0
          exact va_alen hexec hb hK hR.2.2.2.1.1 q0 3 hq0 (ty := .object "LayerFeeder$Block") rfl rfl hd (kk ls H locs ⟨hR.1, hR.2.1, h3.2, hR.2.2.2⟩)
  · cases hx
end X3
