-- one instruction of the machine is one of the JVM (own work)
-- a row of the tables is as the instruction asks
def xm_ck (nL pc : Nat) (i : Jvm.ClassFile.Instr) (n a b : Nat) (c : Int32) (d : Int64) : Bool := match i with
  | .iconst v => decide (n = 1) && decide (Int32.ofInt v = c)
  | .bipush v => decide (n = 2) && decide ((Int8.ofInt v).toInt32 = c)
  | .sipush v => decide (n = 3) && decide ((Int16.ofInt v).toInt32 = c)
  | .ldc _ => decide (n = 2)
  | .lconst v => decide (n = 1) && decide (Int64.ofNat (v : Nat) = d)
  | .ldc2_w _ => decide (n = 3)
  | .iload_n v => decide (n = 1) && decide ((v : Nat) = a)
  | .iload v => decide (n = 2) && decide (v = a)
  | .lload_n v => decide (n = 1) && decide ((v : Nat) = a)
  | .lload v => decide (n = 2) && decide (v = a)
  | .aload_n v => decide (n = 1) && decide ((v : Nat) = a)
  | .aload v => decide (n = 2) && decide (v = a)
  | .istore_n v => decide (n = 1) && (decide ((v : Nat) = a) && decide (a < nL))
  | .istore v => decide (n = 2) && (decide (v = a) && decide (a < nL))
  | .lstore_n v => decide (n = 1) && (decide ((v : Nat) = a) && decide (a + 1 < nL))
  | .lstore v => decide (n = 2) && (decide (v = a) && decide (a + 1 < nL))
  | .astore_n v => decide (n = 1) && (decide ((v : Nat) = a) && decide (a < nL))
  | .astore v => decide (n = 2) && (decide (v = a) && decide (a < nL))
  | .iinc v w => decide (n = 3) && (decide (v = a) && (decide (Int32.ofInt w = c) && decide (a < nL)))
  | .ifCond _ o => decide (n = 3) && decide ((pc : Int) + o = (a : Int))
  | .if_icmp _ o => decide (n = 3) && decide ((pc : Int) + o = (a : Int))
  | .goto o => decide (n = 3) && decide ((pc : Int) + o = (a : Int))
  | .tableswitch dflt lo hi offs => decide (0 ≤ (pc : Int) + dflt) && ((offs.toList.all fun o => decide (0 ≤ (pc : Int) + o)) && decide (hi - lo + 1 = (offs.size : Int)))
  | .lookupswitch dflt ps => decide (0 ≤ (pc : Int) + dflt) && ((ps.toList.all fun o => decide (0 ≤ (pc : Int) + o.2)) && (ps.toList.zip (ps.toList.drop 1)).all (fun (a, next) => a.1 < next.1))
  | .getfield _ => decide (n = 3) && (decide (xm_nth xm_ak b = 0) && decide (a < (xm_nthL xm_ftt b).length))
  | .putfield _ => decide (n = 3) && (decide (xm_nth xm_ak b = 0) && decide (a < (xm_nthL xm_ftt b).length))
  | .invokestatic _ => decide (n = 3)
  | .invokevirtual _ => decide (n = 3)
  | .new _ => decide (n = 3)
  | _ => decide (n = 1)
-- where an instruction goes on, if it does
def xm_gd : Option xm_O → Option xm_S
  | some (.inl t) => some t
  | some (.inr (.inl q)) => bif q.1 then some q.2 else none
  | _ => none
def xMem (D : va_G) (cl : List vw_C) (cs : Nat → ClassId) (ad : Nat → Nat → Nat) (A : Nat → Prop) (H0 : Heap) (N : Nat) (xs : Nat → Int32) (σ : xm_M) (H : Heap) (locs : List Loc) : Prop :=
  va_P D cl (xw cs ad σ) H ∧ va_D A (xw cs ad σ) ∧ va_S A H0 H locs ∧ σ.2.2 = N ∧ ∀ i, i < N → σ.1 32 0 i = xs i
def xRel (D : va_G) (cl : List vw_C) (cs : Nat → ClassId) (ad : Nat → Nat → Nat) (A : Nat → Prop) (H0 : Heap) (N : Nat) (xs : Nat → Int32) (nL : Nat) (t : xm_S) (ls : Array Slot) (H : Heap) (locs : List Loc) : Prop :=
  xRL ad ls nL t.2.1 ∧ xokl t.2.1 ∧ xoks t.2.2.1 ∧ xMem D cl cs ad A H0 N xs t.2.2.2.1 H locs ∧ (t.2.2.2.2 = true → locs = [])
section X1
variable {p : Program} {l : Launch} {e : Env} {R : Room} {s : State} {m : MethodId} {args : Array Value} {below : List Frame} {meth : Method} {c : Code} {H : Heap} {locs : List Loc} {cells slots : Nat} {Q : State → Prop}
variable {D : va_G} {cl : List vw_C} {cs : Nat → ClassId} {ad : Nat → Nat → Nat} {A : Nat → Prop} {H0 : Heap} {N : Nat} {xs : Nat → Int32} {nL pc pn : Nat} {ls : Array Slot} {L : xm_L} {st : List xm_V} {σ : xm_M} {c0 : Bool} {t : xm_S}
theorem xs_i2 {f : Int32 → Int32 → Int32} (hx : xm_gd (xm_i2 f pn L st σ c0) = some t) (hR : xRel D cl cs ad A H0 N xs nL (pc, L, st, σ, c0) ls H locs)
    (row : ∀ (x y : Int32) (r : List Value), W p l e R s m args below meth c H locs cells slots Q (F0 m pn ls (.int (f x y) :: r)) → W p l e R s m args below meth c H locs cells slots Q (F0 m pc ls (.int y :: .int x :: r)))
    (kk : ∀ (ls' : Array Slot) (H' : Heap) (locs' : List Loc), xRel D cl cs ad A H0 N xs nL t ls' H' locs' → W p l e R s m args below meth c H' locs' cells slots Q (F0 m t.1 ls' (t.2.2.1.map (xv ad)))) :
    W p l e R s m args below meth c H locs cells slots Q (F0 m pc ls (st.map (xv ad))) := by
  unfold xm_i2 at hx
  split at hx
  · cases hx
    exact row _ _ _ (kk ls H locs ⟨hR.1, hR.2.1, hR.2.2.1, hR.2.2.2⟩)
  · cases hx
theorem xs_i2d {f : Int32 → Int32 → Int32} (hx : xm_gd (xm_i2d f pn L st σ c0) = some t) (hR : xRel D cl cs ad A H0 N xs nL (pc, L, st, σ, c0) ls H locs)
    (row : ∀ (x y : Int32) (r : List Value), ¬ y = 0 → W p l e R s m args below meth c H locs cells slots Q (F0 m pn ls (.int (f x y) :: r)) → W p l e R s m args below meth c H locs cells slots Q (F0 m pc ls (.int y :: .int x :: r)))
    (kk : ∀ (ls' : Array Slot) (H' : Heap) (locs' : List Loc), xRel D cl cs ad A H0 N xs nL t ls' H' locs' → W p l e R s m args below meth c H' locs' cells slots Q (F0 m t.1 ls' (t.2.2.1.map (xv ad)))) :
    W p l e R s m args below meth c H locs cells slots Q (F0 m pc ls (st.map (xv ad))) := by
  unfold xm_i2d at hx
  split at hx
  · rename_i y x r
    simp only [xm_gd] at hx
    cases hy : (!(y == 0)) with
    | false => rw [hy] at hx; cases hx
    | true =>
      rw [hy] at hx
      cases hx
      exact row _ _ _ (by simpa using hy) (kk ls H locs ⟨hR.1, hR.2.1, hR.2.2.1, hR.2.2.2⟩)
  · cases hx
theorem xs_l2 {f : Int64 → Int64 → Int64} (hx : xm_gd (xm_l2 f pn L st σ c0) = some t) (hR : xRel D cl cs ad A H0 N xs nL (pc, L, st, σ, c0) ls H locs)
    (row : ∀ (x y : Int64) (r : List Value), W p l e R s m args below meth c H locs cells slots Q (F0 m pn ls (.long (f x y) :: r)) → W p l e R s m args below meth c H locs cells slots Q (F0 m pc ls (.long y :: .long x :: r)))
    (kk : ∀ (ls' : Array Slot) (H' : Heap) (locs' : List Loc), xRel D cl cs ad A H0 N xs nL t ls' H' locs' → W p l e R s m args below meth c H' locs' cells slots Q (F0 m t.1 ls' (t.2.2.1.map (xv ad)))) :
    W p l e R s m args below meth c H locs cells slots Q (F0 m pc ls (st.map (xv ad))) := by
  unfold xm_l2 at hx
  split at hx
  · cases hx
    exact row _ _ _ (kk ls H locs ⟨hR.1, hR.2.1, hR.2.2.1, hR.2.2.2⟩)
  · cases hx
theorem xs_l2d {f : Int64 → Int64 → Int64} (hx : xm_gd (xm_l2d f pn L st σ c0) = some t) (hR : xRel D cl cs ad A H0 N xs nL (pc, L, st, σ, c0) ls H locs)
    (row : ∀ (x y : Int64) (r : List Value), ¬ y = 0 → W p l e R s m args below meth c H locs cells slots Q (F0 m pn ls (.long (f x y) :: r)) → W p l e R s m args below meth c H locs cells slots Q (F0 m pc ls (.long y :: .long x :: r)))
    (kk : ∀ (ls' : Array Slot) (H' : Heap) (locs' : List Loc), xRel D cl cs ad A H0 N xs nL t ls' H' locs' → W p l e R s m args below meth c H' locs' cells slots Q (F0 m t.1 ls' (t.2.2.1.map (xv ad)))) :
    W p l e R s m args below meth c H locs cells slots Q (F0 m pc ls (st.map (xv ad))) := by
  unfold xm_l2d at hx
  split at hx
  · rename_i y x r
    simp only [xm_gd] at hx
    cases hy : (!(y == 0)) with
    | false => rw [hy] at hx; cases hx
    | true =>
      rw [hy] at hx
      cases hx
      exact row _ _ _ (by simpa using hy) (kk ls H locs ⟨hR.1, hR.2.1, hR.2.2.1, hR.2.2.2⟩)
  · cases hx
theorem xs_li {f : Int64 → Int32 → Int64} (hx : xm_gd (xm_li f pn L st σ c0) = some t) (hR : xRel D cl cs ad A H0 N xs nL (pc, L, st, σ, c0) ls H locs)
    (row : ∀ (x : Int64) (y : Int32) (r : List Value), W p l e R s m args below meth c H locs cells slots Q (F0 m pn ls (.long (f x y) :: r)) → W p l e R s m args below meth c H locs cells slots Q (F0 m pc ls (.int y :: .long x :: r)))
    (kk : ∀ (ls' : Array Slot) (H' : Heap) (locs' : List Loc), xRel D cl cs ad A H0 N xs nL t ls' H' locs' → W p l e R s m args below meth c H' locs' cells slots Q (F0 m t.1 ls' (t.2.2.1.map (xv ad)))) :
    W p l e R s m args below meth c H locs cells slots Q (F0 m pc ls (st.map (xv ad))) := by
  unfold xm_li at hx
  split at hx
  · cases hx
    exact row _ _ _ (kk ls H locs ⟨hR.1, hR.2.1, hR.2.2.1, hR.2.2.2⟩)
  · cases hx
theorem xs_ll {f : Int64 → Int64 → Int32} (hx : xm_gd (xm_ll f pn L st σ c0) = some t) (hR : xRel D cl cs ad A H0 N xs nL (pc, L, st, σ, c0) ls H locs)
    (row : ∀ (x y : Int64) (r : List Value), W p l e R s m args below meth c H locs cells slots Q (F0 m pn ls (.int (f x y) :: r)) → W p l e R s m args below meth c H locs cells slots Q (F0 m pc ls (.long y :: .long x :: r)))
    (kk : ∀ (ls' : Array Slot) (H' : Heap) (locs' : List Loc), xRel D cl cs ad A H0 N xs nL t ls' H' locs' → W p l e R s m args below meth c H' locs' cells slots Q (F0 m t.1 ls' (t.2.2.1.map (xv ad)))) :
    W p l e R s m args below meth c H locs cells slots Q (F0 m pc ls (st.map (xv ad))) := by
  unfold xm_ll at hx
  split at hx
  · cases hx
    exact row _ _ _ (kk ls H locs ⟨hR.1, hR.2.1, hR.2.2.1, hR.2.2.2⟩)
  · cases hx
theorem xs_i1 {f : Int32 → xm_V} (hf : ∀ x, xokv (f x)) (hx : xm_gd (xm_i1 f pn L st σ c0) = some t) (hR : xRel D cl cs ad A H0 N xs nL (pc, L, st, σ, c0) ls H locs)
    (row : ∀ (x : Int32) (r : List Value), W p l e R s m args below meth c H locs cells slots Q (F0 m pn ls (xv ad (f x) :: r)) → W p l e R s m args below meth c H locs cells slots Q (F0 m pc ls (.int x :: r)))
    (kk : ∀ (ls' : Array Slot) (H' : Heap) (locs' : List Loc), xRel D cl cs ad A H0 N xs nL t ls' H' locs' → W p l e R s m args below meth c H' locs' cells slots Q (F0 m t.1 ls' (t.2.2.1.map (xv ad)))) :
    W p l e R s m args below meth c H locs cells slots Q (F0 m pc ls (st.map (xv ad))) := by
  unfold xm_i1 at hx
  split at hx
  · cases hx
    exact row _ _ (kk ls H locs ⟨hR.1, hR.2.1, (xoks_cons _ _).mpr ⟨hf _, hR.2.2.1⟩, hR.2.2.2⟩)
  · cases hx
theorem xs_l1 {f : Int64 → xm_V} (hf : ∀ x, xokv (f x)) (hx : xm_gd (xm_l1 f pn L st σ c0) = some t) (hR : xRel D cl cs ad A H0 N xs nL (pc, L, st, σ, c0) ls H locs)
    (row : ∀ (x : Int64) (r : List Value), W p l e R s m args below meth c H locs cells slots Q (F0 m pn ls (xv ad (f x) :: r)) → W p l e R s m args below meth c H locs cells slots Q (F0 m pc ls (.long x :: r)))
    (kk : ∀ (ls' : Array Slot) (H' : Heap) (locs' : List Loc), xRel D cl cs ad A H0 N xs nL t ls' H' locs' → W p l e R s m args below meth c H' locs' cells slots Q (F0 m t.1 ls' (t.2.2.1.map (xv ad)))) :
    W p l e R s m args below meth c H locs cells slots Q (F0 m pc ls (st.map (xv ad))) := by
  unfold xm_l1 at hx
  split at hx
  · cases hx
    exact row _ _ (kk ls H locs ⟨hR.1, hR.2.1, (xoks_cons _ _).mpr ⟨hf _, hR.2.2.1⟩, hR.2.2.2⟩)
  · cases hx
-- loads, stores
theorem xs_ldi {n : Nat} (hx : xm_gd (xm_ldi (xm_lg L n) pn L st σ c0) = some t) (hR : xRel D cl cs ad A H0 N xs nL (pc, L, st, σ, c0) ls H locs)
    (row : ∀ (x : Int32) (r : List Value), ls[n]? = some (.val (.int x)) → W p l e R s m args below meth c H locs cells slots Q (F0 m pn ls (.int x :: r)) → W p l e R s m args below meth c H locs cells slots Q (F0 m pc ls r))
    (kk : ∀ (ls' : Array Slot) (H' : Heap) (locs' : List Loc), xRel D cl cs ad A H0 N xs nL t ls' H' locs' → W p l e R s m args below meth c H' locs' cells slots Q (F0 m t.1 ls' (t.2.2.1.map (xv ad)))) :
    W p l e R s m args below meth c H locs cells slots Q (F0 m pc ls (st.map (xv ad))) := by
  unfold xm_ldi at hx
  split at hx
  · rename_i x hg
    cases hx
    exact row _ _ (hR.1.2.2.2 _ _ hg) (kk ls H locs ⟨hR.1, hR.2.1, hR.2.2.1, hR.2.2.2⟩)
  · cases hx
theorem xs_ldl {n : Nat} (hx : xm_gd (xm_ldl (xm_lg L n) pn L st σ c0) = some t) (hR : xRel D cl cs ad A H0 N xs nL (pc, L, st, σ, c0) ls H locs)
    (row : ∀ (x : Int64) (r : List Value), ls[n]? = some (.val (.long x)) → W p l e R s m args below meth c H locs cells slots Q (F0 m pn ls (.long x :: r)) → W p l e R s m args below meth c H locs cells slots Q (F0 m pc ls r))
    (kk : ∀ (ls' : Array Slot) (H' : Heap) (locs' : List Loc), xRel D cl cs ad A H0 N xs nL t ls' H' locs' → W p l e R s m args below meth c H' locs' cells slots Q (F0 m t.1 ls' (t.2.2.1.map (xv ad)))) :
    W p l e R s m args below meth c H locs cells slots Q (F0 m pc ls (st.map (xv ad))) := by
  unfold xm_ldl at hx
  split at hx
  · rename_i x hg
    cases hx
    exact row _ _ (hR.1.2.2.2 _ _ hg) (kk ls H locs ⟨hR.1, hR.2.1, hR.2.2.1, hR.2.2.2⟩)
  · cases hx
theorem xs_lda {n : Nat} (hx : xm_gd (xm_lda (xm_lg L n) pn L st σ c0) = some t) (hR : xRel D cl cs ad A H0 N xs nL (pc, L, st, σ, c0) ls H locs)
    (row : ∀ (x : Nat) (r : List Value), ls[n]? = some (.val (.ref x)) → W p l e R s m args below meth c H locs cells slots Q (F0 m pn ls (.ref x :: r)) → W p l e R s m args below meth c H locs cells slots Q (F0 m pc ls r))
    (kk : ∀ (ls' : Array Slot) (H' : Heap) (locs' : List Loc), xRel D cl cs ad A H0 N xs nL t ls' H' locs' → W p l e R s m args below meth c H' locs' cells slots Q (F0 m t.1 ls' (t.2.2.1.map (xv ad)))) :
    W p l e R s m args below meth c H locs cells slots Q (F0 m pc ls (st.map (xv ad))) := by
  unfold xm_lda at hx
  split at hx
  · rename_i k j hg
    cases hx
    exact row _ _ (hR.1.2.2.2 _ _ hg) (kk ls H locs ⟨hR.1, hR.2.1, (xoks_cons _ _).mpr ⟨xokl_get hR.2.1 hg, hR.2.2.1⟩, hR.2.2.2⟩)
  · cases hx
theorem xs_sti {n : Nat} (hx : xm_gd (xm_sti n pn L st σ c0) = some t) (hR : xRel D cl cs ad A H0 N xs nL (pc, L, st, σ, c0) ls H locs)
    (row : ∀ (x : Int32) (r : List Value), (∀ ls' : Array Slot, lv_has ls' nL ((n, Value.int x) :: (xlst ad L).filter (fun q => !(q.1 == n) && !(q.1 + 1 == n && q.2.category == 2))) → W p l e R s m args below meth c H locs cells slots Q (F0 m pn ls' r)) → W p l e R s m args below meth c H locs cells slots Q (F0 m pc ls (.int x :: r)))
    (kk : ∀ (ls' : Array Slot) (H' : Heap) (locs' : List Loc), xRel D cl cs ad A H0 N xs nL t ls' H' locs' → W p l e R s m args below meth c H' locs' cells slots Q (F0 m t.1 ls' (t.2.2.1.map (xv ad)))) :
    W p l e R s m args below meth c H locs cells slots Q (F0 m pc ls (st.map (xv ad))) := by
  unfold xm_sti at hx
  split at hx
  · rename_i x r
    cases hx
    exact row _ _ fun ls' h' => kk ls' H locs ⟨xRL.of1 (v := xI x) hR.1.2.2.1 h', xokl_set (xokl_kill hR.2.1 n) (fun w hw => by cases hw; trivial), hR.2.2.1, hR.2.2.2⟩
  · cases hx
theorem xs_stl {n : Nat} (hx : xm_gd (xm_stl n pn L st σ c0) = some t) (hR : xRel D cl cs ad A H0 N xs nL (pc, L, st, σ, c0) ls H locs)
    (row : ∀ (x : Int64) (r : List Value), (∀ ls' : Array Slot, lv_has ls' nL ((n, Value.long x) :: (xlst ad L).filter (fun q => !(q.1 == n) && (!(q.1 == n + 1) && !(q.1 + 1 == n && q.2.category == 2)))) → W p l e R s m args below meth c H locs cells slots Q (F0 m pn ls' r)) → W p l e R s m args below meth c H locs cells slots Q (F0 m pc ls (.long x :: r)))
    (kk : ∀ (ls' : Array Slot) (H' : Heap) (locs' : List Loc), xRel D cl cs ad A H0 N xs nL t ls' H' locs' → W p l e R s m args below meth c H' locs' cells slots Q (F0 m t.1 ls' (t.2.2.1.map (xv ad)))) :
    W p l e R s m args below meth c H locs cells slots Q (F0 m pc ls (st.map (xv ad))) := by
  unfold xm_stl at hx
  split at hx
  · rename_i x r
    cases hx
    exact row _ _ fun ls' h' => kk ls' H locs ⟨xRL.of2 (v := xJ x) hR.1.2.2.1 h', xokl_set (xokl_set (xokl_kill hR.2.1 n) (fun w hw => by cases hw; trivial)) (fun w hw => by cases hw), hR.2.2.1, hR.2.2.2⟩
  · cases hx
theorem xs_sta {n : Nat} (hx : xm_gd (xm_sta n pn L st σ c0) = some t) (hR : xRel D cl cs ad A H0 N xs nL (pc, L, st, σ, c0) ls H locs)
    (row : ∀ (x : Nat) (r : List Value), (∀ ls' : Array Slot, lv_has ls' nL ((n, Value.ref x) :: (xlst ad L).filter (fun q => !(q.1 == n) && !(q.1 + 1 == n && q.2.category == 2))) → W p l e R s m args below meth c H locs cells slots Q (F0 m pn ls' r)) → W p l e R s m args below meth c H locs cells slots Q (F0 m pc ls (.ref x :: r)))
    (kk : ∀ (ls' : Array Slot) (H' : Heap) (locs' : List Loc), xRel D cl cs ad A H0 N xs nL t ls' H' locs' → W p l e R s m args below meth c H' locs' cells slots Q (F0 m t.1 ls' (t.2.2.1.map (xv ad)))) :
    W p l e R s m args below meth c H locs cells slots Q (F0 m pc ls (st.map (xv ad))) := by
  unfold xm_sta at hx
  split at hx
  · rename_i k j r
    cases hx
    have h3 := (xoks_cons _ _).mp hR.2.2.1
    exact row _ _ fun ls' h' => kk ls' H locs ⟨xRL.of1 (v := xR k j) hR.1.2.2.1 h', xokl_set (xokl_kill hR.2.1 n) (fun w hw => by cases hw; exact h3.1), h3.2, hR.2.2.2⟩
  · cases hx
theorem xs_inc {n : Nat} {d : Int32} (hx : xm_gd (xm_inc (xm_lg L n) n pn d L st σ c0) = some t) (hR : xRel D cl cs ad A H0 N xs nL (pc, L, st, σ, c0) ls H locs)
    (row : ∀ (x : Int32) (k : Nat) (r : List Value), (xlst ad L)[k]? = some (n, .int x) → (∀ ls' : Array Slot, lv_has ls' nL ((n, Value.int (x + d)) :: (xlst ad L).filter (fun q => !(q.1 == n) && !(q.1 + 1 == n && q.2.category == 2))) → W p l e R s m args below meth c H locs cells slots Q (F0 m pn ls' r)) → W p l e R s m args below meth c H locs cells slots Q (F0 m pc ls r))
    (kk : ∀ (ls' : Array Slot) (H' : Heap) (locs' : List Loc), xRel D cl cs ad A H0 N xs nL t ls' H' locs' → W p l e R s m args below meth c H' locs' cells slots Q (F0 m t.1 ls' (t.2.2.1.map (xv ad)))) :
    W p l e R s m args below meth c H locs cells slots Q (F0 m pc ls (st.map (xv ad))) := by
  unfold xm_inc at hx
  split at hx
  · rename_i x hg
    cases hx
    obtain ⟨k, hk⟩ := List.getElem?_of_mem (xlst_mem (ad := ad) (L := L) (q := (n, .int x)) |>.mpr ⟨_, hg, rfl⟩)
    exact row x k _ hk fun ls' h' => kk ls' H locs ⟨xRL.of1 (v := xI (x + d)) hR.1.2.2.1 h', xokl_set (xokl_kill hR.2.1 n) (fun w hw => by cases hw; trivial), hR.2.2.1, hR.2.2.2⟩
  · cases hx
theorem xs_dup (hx : xm_gd (xm_dup pn L st σ c0) = some t) (hR : xRel D cl cs ad A H0 N xs nL (pc, L, st, σ, c0) ls H locs)
    (row : ∀ (v : Value) (r : List Value), v.category = 1 → W p l e R s m args below meth c H locs cells slots Q (F0 m pn ls (v :: v :: r)) → W p l e R s m args below meth c H locs cells slots Q (F0 m pc ls (v :: r)))
    (kk : ∀ (ls' : Array Slot) (H' : Heap) (locs' : List Loc), xRel D cl cs ad A H0 N xs nL t ls' H' locs' → W p l e R s m args below meth c H' locs' cells slots Q (F0 m t.1 ls' (t.2.2.1.map (xv ad)))) :
    W p l e R s m args below meth c H locs cells slots Q (F0 m pc ls (st.map (xv ad))) := by
  unfold xm_dup at hx
  split at hx
  · rename_i v r
    cases hv : xm_isl (some v) with
    | true => rw [hv] at hx; cases hx
    | false =>
      rw [hv] at hx
      cases hx
      have h3 := (xoks_cons _ _).mp hR.2.2.1
      exact row _ _ (xv_cat1 hv) (kk ls H locs ⟨hR.1, hR.2.1, (xoks_cons _ _).mpr ⟨h3.1, hR.2.2.1⟩, hR.2.2.2⟩)
  · cases hx
theorem xs_pp (hx : xm_gd (xm_pp pn L st σ c0) = some t) (hR : xRel D cl cs ad A H0 N xs nL (pc, L, st, σ, c0) ls H locs)
    (row : ∀ (v : Value) (r : List Value), v.category = 1 → W p l e R s m args below meth c H locs cells slots Q (F0 m pn ls r) → W p l e R s m args below meth c H locs cells slots Q (F0 m pc ls (v :: r)))
    (kk : ∀ (ls' : Array Slot) (H' : Heap) (locs' : List Loc), xRel D cl cs ad A H0 N xs nL t ls' H' locs' → W p l e R s m args below meth c H' locs' cells slots Q (F0 m t.1 ls' (t.2.2.1.map (xv ad)))) :
    W p l e R s m args below meth c H locs cells slots Q (F0 m pc ls (st.map (xv ad))) := by
  unfold xm_pp at hx
  split at hx
  · rename_i v r
    cases hv : xm_isl (some v) with
    | true => rw [hv] at hx; cases hx
    | false =>
      rw [hv] at hx
      cases hx
      have h3 := (xoks_cons _ _).mp hR.2.2.1
      exact row _ _ (xv_cat1 hv) (kk ls H locs ⟨hR.1, hR.2.1, h3.2, hR.2.2.2⟩)
  · cases hx
theorem xs_dupx1 (hx : xm_gd (xm_dupx1 pn L st σ c0) = some t) (hR : xRel D cl cs ad A H0 N xs nL (pc, L, st, σ, c0) ls H locs)
    (row : ∀ (v u : Value) (r : List Value), v.category = 1 → u.category = 1 → W p l e R s m args below meth c H locs cells slots Q (F0 m pn ls (v :: u :: v :: r)) → W p l e R s m args below meth c H locs cells slots Q (F0 m pc ls (v :: u :: r)))
    (kk : ∀ (ls' : Array Slot) (H' : Heap) (locs' : List Loc), xRel D cl cs ad A H0 N xs nL t ls' H' locs' → W p l e R s m args below meth c H' locs' cells slots Q (F0 m t.1 ls' (t.2.2.1.map (xv ad)))) :
    W p l e R s m args below meth c H locs cells slots Q (F0 m pc ls (st.map (xv ad))) := by
  unfold xm_dupx1 at hx
  split at hx
  · rename_i v u r
    cases hv : xm_isl (some v) with
    | true => rw [hv] at hx; cases hx
    | false =>
      cases hu : xm_isl (some u) with
      | true => rw [hv, hu] at hx; cases hx
      | false =>
        rw [hv, hu] at hx
        cases hx
        have h3 := (xoks_cons _ _).mp hR.2.2.1
        have h4 := (xoks_cons _ _).mp h3.2
        exact row _ _ _ (xv_cat1 hv) (xv_cat1 hu) (kk ls H locs ⟨hR.1, hR.2.1, (xoks_cons _ _).mpr ⟨h3.1, (xoks_cons _ _).mpr ⟨h4.1, (xoks_cons _ _).mpr ⟨h3.1, h4.2⟩⟩⟩, hR.2.2.2⟩)
  · cases hx
theorem xs_dupx2 (hx : xm_gd (xm_dupx2 pn L st σ c0) = some t) (hR : xRel D cl cs ad A H0 N xs nL (pc, L, st, σ, c0) ls H locs)
    (row : ∀ (v u w : Value) (r : List Value), v.category = 1 → u.category = 1 → w.category = 1 → W p l e R s m args below meth c H locs cells slots Q (F0 m pn ls (v :: u :: w :: v :: r)) → W p l e R s m args below meth c H locs cells slots Q (F0 m pc ls (v :: u :: w :: r)))
    (kk : ∀ (ls' : Array Slot) (H' : Heap) (locs' : List Loc), xRel D cl cs ad A H0 N xs nL t ls' H' locs' → W p l e R s m args below meth c H' locs' cells slots Q (F0 m t.1 ls' (t.2.2.1.map (xv ad)))) :
    W p l e R s m args below meth c H locs cells slots Q (F0 m pc ls (st.map (xv ad))) := by
  unfold xm_dupx2 at hx
  split at hx
  · rename_i v u w r
    cases hv : xm_isl (some v) with
    | true => rw [hv] at hx; cases hx
    | false =>
      cases hu : xm_isl (some u) with
      | true => rw [hv, hu] at hx; cases hx
      | false =>
        cases hw : xm_isl (some w) with
        | true => rw [hv, hu, hw] at hx; cases hx
        | false =>
          rw [hv, hu, hw] at hx
          cases hx
          have h3 := (xoks_cons _ _).mp hR.2.2.1
          have h4 := (xoks_cons _ _).mp h3.2
          have h5 := (xoks_cons _ _).mp h4.2
          exact row _ _ _ _ (xv_cat1 hv) (xv_cat1 hu) (xv_cat1 hw) (kk ls H locs ⟨hR.1, hR.2.1, (xoks_cons _ _).mpr ⟨h3.1, (xoks_cons _ _).mpr ⟨h4.1, (xoks_cons _ _).mpr ⟨h5.1, (xoks_cons _ _).mpr ⟨h3.1, h5.2⟩⟩⟩⟩, hR.2.2.2⟩)
  · cases hx
theorem xs_dup2 (hx : xm_gd (xm_dup2 pn L st σ c0) = some t) (hR : xRel D cl cs ad A H0 N xs nL (pc, L, st, σ, c0) ls H locs)
    (row : ∀ (v u : Value) (r : List Value), v.category = 1 → u.category = 1 → W p l e R s m args below meth c H locs cells slots Q (F0 m pn ls (v :: u :: v :: u :: r)) → W p l e R s m args below meth c H locs cells slots Q (F0 m pc ls (v :: u :: r)))
    (kk : ∀ (ls' : Array Slot) (H' : Heap) (locs' : List Loc), xRel D cl cs ad A H0 N xs nL t ls' H' locs' → W p l e R s m args below meth c H' locs' cells slots Q (F0 m t.1 ls' (t.2.2.1.map (xv ad)))) :
    W p l e R s m args below meth c H locs cells slots Q (F0 m pc ls (st.map (xv ad))) := by
  unfold xm_dup2 at hx
  split at hx
  · rename_i v u r
    cases hv : xm_isl (some v) with
    | true => rw [hv] at hx; cases hx
    | false =>
      cases hu : xm_isl (some u) with
      | true => rw [hv, hu] at hx; cases hx
      | false =>
        rw [hv, hu] at hx
        cases hx
        have h3 := (xoks_cons _ _).mp hR.2.2.1
        have h4 := (xoks_cons _ _).mp h3.2
        exact row _ _ _ (xv_cat1 hv) (xv_cat1 hu) (kk ls H locs ⟨hR.1, hR.2.1, (xoks_cons _ _).mpr ⟨h3.1, (xoks_cons _ _).mpr ⟨h4.1, hR.2.2.1⟩⟩, hR.2.2.2⟩)
  · cases hx
theorem xs_sw {f : Int32 → Nat} (hx : xm_gd (xm_sw f L st σ c0) = some t) (hR : xRel D cl cs ad A H0 N xs nL (pc, L, st, σ, c0) ls H locs)
    (row : ∀ (x : Int32) (r : List Value), W p l e R s m args below meth c H locs cells slots Q (F0 m (f x) ls r) → W p l e R s m args below meth c H locs cells slots Q (F0 m pc ls (.int x :: r)))
    (kk : ∀ (ls' : Array Slot) (H' : Heap) (locs' : List Loc), xRel D cl cs ad A H0 N xs nL t ls' H' locs' → W p l e R s m args below meth c H' locs' cells slots Q (F0 m t.1 ls' (t.2.2.1.map (xv ad)))) :
    W p l e R s m args below meth c H locs cells slots Q (F0 m pc ls (st.map (xv ad))) := by
  unfold xm_sw at hx
  split at hx
  · cases hx
    exact row _ _ (kk ls H locs ⟨hR.1, hR.2.1, hR.2.2.1, hR.2.2.2⟩)
  · cases hx
end X1
