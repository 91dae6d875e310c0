-- the machine's values against the JVM's (own work)
def xv (ad : Nat → Nat → Nat) : xm_V → Value
  | .inl x => .int x
  | .inr (.inl x) => .long x
  | .inr (.inr q) => .ref (ad q.1 q.2)
-- which references there are: kind and index
abbrev xprs : List (Nat × Nat) := [(0, 0), (1, 0), (2, 0), (3, 0), (4, 0), (5, 0), (6, 0), (7, 0), (8, 0), (9, 0),
  (10, 0), (10, 1), (10, 2), (10, 3), (10, 4), (10, 5), (10, 6), (10, 7), (11, 0), (11, 1), (11, 2), (11, 3), (11, 4), (11, 5), (11, 6), (11, 7),
  (12, 0), (13, 0), (14, 0), (15, 0), (16, 0), (17, 0), (18, 0), (19, 0), (20, 0), (21, 0), (22, 0), (23, 0), (24, 0), (25, 0), (26, 0), (27, 0), (28, 0), (29, 0), (30, 0), (31, 0)]
def xok (k j : Nat) : Prop := (k, j) ∈ xprs ∨ (k, j) = (32, 0) ∨ (k, j) = (33, 0)
def xoks : List xm_V → Prop
  | [] => True
  | .inl _ :: r => xoks r
  | .inr (.inl _) :: r => xoks r
  | .inr (.inr q) :: r => xok q.1 q.2 ∧ xoks r
def xokl : xm_L → Prop
  | [] => True
  | some (.inr (.inr q)) :: r => xok q.1 q.2 ∧ xokl r
  | _ :: r => xokl r
def xokv : xm_V → Prop
  | .inr (.inr q) => xok q.1 q.2
  | _ => True
theorem xokl_cons (v : Option xm_V) (r : xm_L) : xokl (v :: r) ↔ (∀ w, v = some w → xokv w) ∧ xokl r := by
  rcases v with _ | x | x | q
  · simp [xokl]
  · simp [xokl, xokv]
  · simp [xokl, xokv]
  · simp [xokl, xokv]
theorem xoks_cons (v : xm_V) (r : List xm_V) : xoks (v :: r) ↔ xokv v ∧ xoks r := by
  rcases v with x | x | q
  · simp [xoks, xokv]
  · simp [xoks, xokv]
  · simp [xoks, xokv]
theorem xokl_get {L : xm_L} (h : xokl L) : ∀ {n : Nat} {v : xm_V}, xm_lg L n = some v → xokv v := by
  induction L with
  | nil => intro n v hv; simp [xm_lg] at hv
  | cons a r ih =>
    intro n v hv
    rw [xokl_cons] at h
    cases n with
    | zero => exact h.1 v hv
    | succ n => exact ih h.2 hv
theorem xokl_set {L : xm_L} (h : xokl L) : ∀ {n : Nat} {v : Option xm_V}, (∀ w, v = some w → xokv w) → xokl (xm_ls L n v) := by
  induction L with
  | nil => intro n v _; exact h
  | cons a r ih =>
    intro n v hv
    rw [xokl_cons] at h
    cases n with
    | zero => exact (xokl_cons _ _).mpr ⟨hv, h.2⟩
    | succ n => exact (xokl_cons _ _).mpr ⟨h.1, ih h.2 hv⟩
theorem xokl_kill {L : xm_L} (h : xokl L) (n : Nat) : xokl (xm_kill L n) := by
  cases n with
  | zero => exact h
  | succ n =>
    simp only [xm_kill]
    cases xm_isl (xm_lg L n) with
    | true => exact xokl_set h (by intro w hw; cases hw)
    | false => exact h
theorem xm_lg_ls (L : xm_L) (i j : Nat) (v : Option xm_V) : xm_lg (xm_ls L i v) j = if j = i then (if i < L.length then v else none) else xm_lg L j := by
  induction L generalizing i j with
  | nil => cases j <;> simp [xm_ls, xm_lg]
  | cons a r ih =>
    cases i with
    | zero => cases j <;> simp [xm_ls, xm_lg]
    | succ i =>
      cases j with
      | zero => simp [xm_ls, xm_lg]
      | succ j => simp [xm_ls, xm_lg, ih i j]
theorem xm_ls_len (L : xm_L) (i : Nat) (v : Option xm_V) : (xm_ls L i v).length = L.length := by
  induction L generalizing i with
  | nil => rfl
  | cons a r ih => cases i with
    | zero => rfl
    | succ i => simp [xm_ls, ih i]
theorem xm_kill_len (L : xm_L) (i : Nat) : (xm_kill L i).length = L.length := by
  cases i with
  | zero => rfl
  | succ n =>
    simp only [xm_kill]
    cases xm_isl (xm_lg L n) with
    | true => exact xm_ls_len _ _ _
    | false => rfl
theorem xm_lg_lt {L : xm_L} {i : Nat} {v : xm_V} (h : xm_lg L i = some v) : i < L.length := by
  induction L generalizing i with
  | nil => simp [xm_lg] at h
  | cons a r ih => cases i with
    | zero => simp
    | succ i => have := ih (i := i) h; simp; omega
theorem xm_lg_kill {L : xm_L} {i j : Nat} {v : xm_V} (h : xm_lg (xm_kill L i) j = some v) : xm_lg L j = some v ∧ ¬ (j + 1 = i ∧ xm_isl (some v) = true) := by
  cases i with
  | zero => exact ⟨h, fun q => by omega⟩
  | succ n =>
    simp only [xm_kill] at h
    cases hb : xm_isl (xm_lg L n) with
    | true =>
      rw [hb] at h
      simp only [cond_true] at h
      rw [xm_lg_ls] at h
      by_cases hj : j = n
      · rw [if_pos hj] at h
        split at h <;> cases h
      · rw [if_neg hj] at h
        exact ⟨h, fun q => hj (by omega)⟩
    | false =>
      rw [hb] at h
      simp only [cond_false] at h
      refine ⟨h, fun q => ?_⟩
      have e : j = n := by omega
      subst e
      rw [h, q.2] at hb
      cases hb
theorem xv_cat (ad : Nat → Nat → Nat) (v : xm_V) : ((xv ad v).category == 2) = xm_isl (some v) := by
  rcases v with x | x | q <;> rfl
theorem xv_cat1 {ad : Nat → Nat → Nat} {v : xm_V} (h : xm_isl (some v) = false) : (xv ad v).category = 1 := by
  rcases v with x | x | q
  · rfl
  · cases h
  · rfl
-- the locals
def xRL (ad : Nat → Nat → Nat) (ls : Array Slot) (nL : Nat) (L : xm_L) : Prop := ls.size = nL ∧ lv_wf ls ∧ L.length = nL ∧ ∀ (i : Nat) (v : xm_V), xm_lg L i = some v → ls[i]? = some (.val (xv ad v))
def xlst (ad : Nat → Nat → Nat) (L : xm_L) : List (Nat × Value) := (List.range L.length).filterMap fun i => (xm_lg L i).map fun v => (i, xv ad v)
theorem xlst_mem {ad : Nat → Nat → Nat} {L : xm_L} {q : Nat × Value} : q ∈ xlst ad L ↔ ∃ v, xm_lg L q.1 = some v ∧ q.2 = xv ad v := by
  unfold xlst
  rw [List.mem_filterMap]
  constructor
  · rintro ⟨i, -, h⟩
    obtain ⟨v, hv, e⟩ := Option.map_eq_some_iff.mp h
    subst e
    exact ⟨v, hv, rfl⟩
  · rintro ⟨v, hv, e⟩
    exact ⟨q.1, List.mem_range.mpr (xm_lg_lt hv), by rw [hv]; exact congrArg some (Prod.ext rfl e.symm)⟩
theorem xRL.has {ad : Nat → Nat → Nat} {ls : Array Slot} {nL : Nat} {L : xm_L} (h : xRL ad ls nL L) : lv_has ls nL (xlst ad L) := by
  refine ⟨h.1, h.2.1, fun q hq => ?_⟩
  obtain ⟨v, hv, e⟩ := xlst_mem.mp hq
  rw [e]
  exact h.2.2.2 _ _ hv
theorem xRL.of1 {ad : Nat → Nat → Nat} {ls' : Array Slot} {nL i : Nat} {L : xm_L} {v : xm_V} (hL : L.length = nL) (h : lv_has ls' nL ((i, xv ad v) :: (xlst ad L).filter (fun q => !(q.1 == i) && !(q.1 + 1 == i && q.2.category == 2)))) : xRL ad ls' nL (xm_s1 L i v) := by
  refine ⟨h.1, h.2.1, by rw [xm_s1, xm_ls_len, xm_kill_len]; exact hL, fun j w hw => ?_⟩
  rw [xm_s1, xm_lg_ls] at hw
  by_cases hj : j = i
  · rw [if_pos hj] at hw
    split at hw
    · cases hw
      subst hj
      exact h.2.2 _ List.mem_cons_self
    · cases hw
  · rw [if_neg hj] at hw
    obtain ⟨e1, e2⟩ := xm_lg_kill hw
    refine h.2.2 (j, xv ad w) (List.mem_cons_of_mem _ (List.mem_filter.mpr ⟨xlst_mem.mpr ⟨w, e1, rfl⟩, ?_⟩))
    have hc := xv_cat ad w
    simp only [Bool.and_eq_true, Bool.not_eq_true', beq_eq_false_iff_ne, ne_eq, Bool.and_eq_false_iff]
    refine ⟨hj, ?_⟩
    by_cases h1 : j + 1 = i
    · right
      cases hb : xm_isl (some w) with
      | true => exact absurd ⟨h1, hb⟩ e2
      | false => rw [hb] at hc; simpa using hc
    · left
      exact h1
theorem xRL.of2 {ad : Nat → Nat → Nat} {ls' : Array Slot} {nL i : Nat} {L : xm_L} {v : xm_V} (hL : L.length = nL) (h : lv_has ls' nL ((i, xv ad v) :: (xlst ad L).filter (fun q => !(q.1 == i) && (!(q.1 == i + 1) && !(q.1 + 1 == i && q.2.category == 2))))) : xRL ad ls' nL (xm_s2 L i v) := by
  refine ⟨h.1, h.2.1, by rw [xm_s2, xm_ls_len, xm_ls_len, xm_kill_len]; exact hL, fun j w hw => ?_⟩
  rw [xm_s2, xm_lg_ls] at hw
  by_cases hj1 : j = i + 1
  · rw [if_pos hj1] at hw
    split at hw <;> cases hw
  rw [if_neg hj1, xm_lg_ls] at hw
  by_cases hj : j = i
  · rw [if_pos hj] at hw
    split at hw
    · cases hw
      subst hj
      exact h.2.2 _ List.mem_cons_self
    · cases hw
  · rw [if_neg hj] at hw
    obtain ⟨e1, e2⟩ := xm_lg_kill hw
    refine h.2.2 (j, xv ad w) (List.mem_cons_of_mem _ (List.mem_filter.mpr ⟨xlst_mem.mpr ⟨w, e1, rfl⟩, ?_⟩))
    have hc := xv_cat ad w
    simp only [Bool.and_eq_true, Bool.not_eq_true', beq_eq_false_iff_ne, ne_eq, Bool.and_eq_false_iff]
    refine ⟨hj, hj1, ?_⟩
    by_cases h1 : j + 1 = i
    · right
      cases hb : xm_isl (some w) with
      | true => exact absurd ⟨h1, hb⟩ e2
      | false => rw [hb] at hc; simpa using hc
    · left
      exact h1
