-- what a run of the machine says of the JVM (own work)
def xThr (x : Nat) (a : Addr) (t : State) : Prop := ∃ cell : Cell, t.heap[a]? = some cell ∧ cell.vm = .none ∧ t.vm.findClass (xm_xn x) = some cell.cls
def xEnd (D : va_G) (cl : List vw_C) (cs : Nat → ClassId) (ad : Nat → Nat → Nat) (A : Nat → Prop) (H0 : Heap) (N : Nat) (xs : Nat → Int32) (r : xm_Re) (s : State) (below : List Frame) (cells slots : Nat) (t : State) : Prop :=
  ∃ (o : Outcome) (L : List Loc), t.status = .running ∧ Ended t below o ∧ s.WarmedH t.vm ∧ s.sameButNew ({ t with vm := s.vm } : State) L (cells + r.2.2.2) (slots + 6 * r.2.2.2) ∧ xMem D cl cs ad A H0 N xs r.2.1 t.heap L ∧ (r.2.2.1 = true → L = []) ∧
    (match r.1 with
    | .inl v => o = .returned (v.map (xv ad)) ∧ ∀ w, v = some w → xokv w
    | .inr x => ∃ a : Addr, o = .threw a ∧ xThr x a t)
def xFix (k : Nat) (s : State) (m : MethodId) (meth : Method) (c : Code) : Prop :=
  s.vm.findClass (xm_mn k).cls = some m.cls ∧ c.code = xm_code k ∧ c.maxLocals = xm_ml k ∧ meth.sig.returnType = xm_rt k ∧ meth.locks = false ∧ c.exceptionTable.toList.map (fun h => (h.startPc, h.endPc, h.handlerPc, h.catchType)) = xm_et k
theorem xm_pad_len (n : Nat) : ∀ L : xm_L, (xm_pad n L).length = n := by
  induction n with
  | zero => intro L; rfl
  | succ n ih => intro L; cases L <;> simp [xm_pad, ih]
theorem xm_pad_get (n : Nat) : ∀ (L : xm_L) (i : Nat) (v : xm_V), xm_lg (xm_pad n L) i = some v → xm_lg L i = some v := by
  induction n with
  | zero => intro L i v h; simp [xm_pad, xm_lg] at h
  | succ n ih =>
    intro L i v h
    cases L with
    | nil =>
      cases i with
      | zero => simp [xm_pad, xm_lg] at h
      | succ i =>
        have := ih [] i v h
        simp [xm_lg] at this
    | cons a r =>
      cases i with
      | zero => exact h
      | succ i => exact ih r i v h
theorem xm_pl_get (ad : Nat → Nat → Nat) (as : List xm_V) : ∀ (i j : Nat) (v : xm_V), xm_lg (xm_pl as) i = some v → (j + i, xv ad v) ∈ lv_args j (as.map (xv ad)) := by
  induction as with
  | nil => intro i j v h; simp [xm_pl, xm_lg] at h
  | cons a r ih =>
    intro i j v h
    have hc := xv_cat ad a
    simp only [List.map_cons, lv_args]
    cases hb : xm_isl (some a) with
    | true =>
      rw [hb] at hc
      simp only [beq_iff_eq] at hc
      rw [if_pos hc]
      simp only [xm_pl, hb, cond_true] at h
      cases i with
      | zero => cases h; exact List.mem_cons_self
      | succ i =>
        cases i with
        | zero => cases h
        | succ i =>
          have := ih i (j + 2) v h
          rw [show j + (i + 1 + 1) = j + 2 + i by omega]
          exact List.mem_cons_of_mem _ this
    | false =>
      rw [hb] at hc
      have hc' : ¬ (xv ad a).category = 2 := by simpa using hc
      rw [if_neg hc']
      simp only [xm_pl, hb, cond_false] at h
      cases i with
      | zero => cases h; exact List.mem_cons_self
      | succ i =>
        have := ih i (j + 1) v h
        rw [show j + (i + 1) = j + 1 + i by omega]
        exact List.mem_cons_of_mem _ this
theorem xm_wt_len (ad : Nat → Nat → Nat) (as : List xm_V) : (lg_sl (as.map (xv ad))).length = xm_wt as ∧ ((as.map (xv ad)).map fun v => v.category).sum = xm_wt as := by
  induction as with
  | nil => exact ⟨rfl, rfl⟩
  | cons a r ih =>
    obtain ⟨h1, h2⟩ := ih
    unfold lg_sl at h1 ⊢
    have hc := xv_cat ad a
    cases hb : xm_isl (some a) with
    | true =>
      rw [hb] at hc
      simp only [beq_iff_eq] at hc
      simp only [List.map_cons, List.flatMap_cons, hc, if_true, xm_wt, hb, cond_true, List.length_append, List.sum_cons, h2]
      rw [h1]
      refine ⟨?_, ?_⟩ <;> first | rfl | trivial
    | false =>
      have hc1 := xv_cat1 (ad := ad) hb
      simp only [List.map_cons, List.flatMap_cons, hc1, xm_wt, hb, cond_false, List.length_append, List.sum_cons, h2]
      rw [h1]
      refine ⟨?_, ?_⟩ <;> first | rfl | trivial
theorem xokl_pl {as : List xm_V} (h : xoks as) : xokl (xm_pl as) := by
  induction as with
  | nil => trivial
  | cons a r ih =>
    have h2 := (xoks_cons _ _).mp h
    simp only [xm_pl]
    cases hb : xm_isl (some a) with
    | true => exact (xokl_cons _ _).mpr ⟨(fun w hw => by cases hw; exact h2.1), (xokl_cons _ _).mpr ⟨(fun w hw => by cases hw), ih h2.2⟩⟩
    | false => exact (xokl_cons _ _).mpr ⟨(fun w hw => by cases hw; exact h2.1), ih h2.2⟩
theorem xokl_pad {n : Nat} : ∀ {L : xm_L}, xokl L → xokl (xm_pad n L) := by
  induction n with
  | zero => intro L _; trivial
  | succ n ih =>
    intro L h
    cases L with
    | nil => exact (xokl_cons _ _).mpr ⟨(fun w hw => by cases hw), ih (L := []) trivial⟩
    | cons a r =>
      have h2 := (xokl_cons _ _).mp h
      exact (xokl_cons _ _).mpr ⟨h2.1, ih h2.2⟩
theorem xm_pop_spec : ∀ (n : Nat) (as st bs r : List xm_V), xm_pop n as st = some (bs, r) → ∃ cs, st = cs.reverse ++ r ∧ bs = cs ++ as ∧ cs.length = n
  | 0, as, st, bs, r, h => by cases h; exact ⟨[], rfl, rfl, rfl⟩
  | n + 1, as, [], bs, r, h => by cases h
  | n + 1, as, v :: st, bs, r, h => by
    obtain ⟨cs, h1, h2, h3⟩ := xm_pop_spec n (v :: as) st bs r h
    refine ⟨cs ++ [v], ?_, ?_, by simp [h3]⟩
    · simp [h1]
    · simp [h2]
theorem xoks_app {a b : List xm_V} : xoks (a ++ b) ↔ xoks a ∧ xoks b := by
  induction a with
  | nil => simp [xoks]
  | cons v r ih => rw [List.cons_append, xoks_cons, xoks_cons, ih, and_assoc]
theorem xoks_rev {a : List xm_V} (h : xoks a.reverse) : xoks a := by
  induction a with
  | nil => trivial
  | cons v r ih =>
    rw [List.reverse_cons, xoks_app] at h
    exact (xoks_cons _ _).mpr ⟨((xoks_cons _ _).mp h.2).1, ih h.1⟩
