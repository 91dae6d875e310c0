-- the machine's memory against the JVM's heap (own work)
abbrev xm_cis : List Nat := [0, 1, 0, 2, 0, 0, 3, 0, 4, 0, 5, 0, 6, 0, 0, 0, 0, 0, 7]
def xfv (ad : Nat → Nat → Nat) (σ : xm_M) (k j i : Nat) : Nat → Value
  | 0 => .int (σ.1 k j i)
  | 1 => .long (σ.2.1 k j i)
  | 2 => .int (σ.1 k j i)
  | t + 3 => .ref (ad t j)
def xfl (ad : Nat → Nat → Nat) (σ : xm_M) (k j : Nat) : Nat → List Nat → List Value
  | _, [] => []
  | i, t :: r => xfv ad σ k j i t :: xfl ad σ k j (i + 1) r
theorem xfl_get (ad : Nat → Nat → Nat) (σ : xm_M) (k j : Nat) (ts : List Nat) : ∀ (i n : Nat), (xfl ad σ k j i ts)[n]? = (ts[n]?).map fun t => xfv ad σ k j (i + n) t := by
  induction ts with
  | nil => intro i n; simp [xfl]
  | cons t r ih =>
    intro i n
    cases n with
    | zero => simp [xfl]
    | succ n =>
      simp only [xfl, List.getElem?_cons_succ]
      rw [ih (i + 1) n, show i + 1 + n = i + (n + 1) by omega]
theorem xfl_len (ad : Nat → Nat → Nat) (σ : xm_M) (k j : Nat) (ts : List Nat) : ∀ i : Nat, (xfl ad σ k j i ts).length = ts.length := by
  induction ts with
  | nil => intro i; rfl
  | cons t r ih => intro i; simp [xfl, ih (i + 1)]
theorem xm_nth_get {l : List Nat} {n : Nat} (h : n < l.length) : l[n]? = some (xm_nth l n) := by
  induction l generalizing n with
  | nil => simp at h
  | cons a r ih => cases n with
    | zero => rfl
    | succ n => simp only [List.getElem?_cons_succ, xm_nth]; exact ih (by simpa using h)
theorem xm_at_self (k j s : Nat) : xm_at k j s k j s = true := by simp [xm_at]
theorem xm_at_iff (k j s a b c : Nat) : xm_at k j s a b c = true ↔ a = k ∧ b = j ∧ c = s := by simp [xm_at, Nat.beq_eq_true_eq]
theorem xm_w_self (σ : xm_M) (k j s : Nat) (v : Int32) : (xm_w σ k j s v).1 k j s = v := by simp [xm_w, xm_at_self]
theorem xm_w_ne (σ : xm_M) {k j s a b c : Nat} (v : Int32) (h : ¬ (a = k ∧ b = j ∧ c = s)) : (xm_w σ k j s v).1 a b c = σ.1 a b c := by
  have : xm_at k j s a b c = false := by
    cases hx : xm_at k j s a b c with
    | false => rfl
    | true => exact absurd ((xm_at_iff ..).mp hx) h
  simp [xm_w, this]
theorem xm_wl_self (σ : xm_M) (k j s : Nat) (v : Int64) : (xm_wl σ k j s v).2.1 k j s = v := by simp [xm_wl, xm_at_self]
theorem xm_wl_ne (σ : xm_M) {k j s a b c : Nat} (v : Int64) (h : ¬ (a = k ∧ b = j ∧ c = s)) : (xm_wl σ k j s v).2.1 a b c = σ.2.1 a b c := by
  have : xm_at k j s a b c = false := by
    cases hx : xm_at k j s a b c with
    | false => rfl
    | true => exact absurd ((xm_at_iff ..).mp hx) h
  simp [xm_wl, this]
-- a field is written
theorem xfl_w {ad : Nat → Nat → Nat} {σ : xm_M} {k j a : Nat} {ts : List Nat} (x : Int32) (ht : ts[a]? = some 0 ∨ ts[a]? = some 2) : xfl ad (xm_w σ k j a x) k j 0 ts = (xfl ad σ k j 0 ts).set a (.int x) := by
  apply List.ext_getElem?
  intro n
  rw [List.getElem?_set, xfl_get, xfl_get, xfl_len]
  by_cases hn : a = n
  · subst hn
    have hl : a < ts.length := by rcases ht with h | h <;> exact (List.getElem?_eq_some_iff.mp h).1
    rw [if_pos rfl, if_pos hl]
    rcases ht with h | h <;> (rw [h]; simp [xfv, xm_w_self])
  · rw [if_neg hn]
    cases hq : ts[n]? with
    | none => rfl
    | some t =>
      simp only [Option.map_some]
      congr 1
      rw [Nat.zero_add]
      rcases t with _ | _ | _ | t
      · simp only [xfv]; rw [xm_w_ne _ _ (fun q => hn q.2.2.symm)]
      · rfl
      · simp only [xfv]; rw [xm_w_ne _ _ (fun q => hn q.2.2.symm)]
      · rfl
theorem xfl_wl {ad : Nat → Nat → Nat} {σ : xm_M} {k j a : Nat} {ts : List Nat} (x : Int64) (ht : ts[a]? = some 1) : xfl ad (xm_wl σ k j a x) k j 0 ts = (xfl ad σ k j 0 ts).set a (.long x) := by
  apply List.ext_getElem?
  intro n
  rw [List.getElem?_set, xfl_get, xfl_get, xfl_len]
  by_cases hn : a = n
  · subst hn
    have hl : a < ts.length := (List.getElem?_eq_some_iff.mp ht).1
    rw [if_pos rfl, if_pos hl, ht]
    simp [xfv, xm_wl_self]
  · rw [if_neg hn]
    cases hq : ts[n]? with
    | none => rfl
    | some t =>
      simp only [Option.map_some]
      congr 1
      rw [Nat.zero_add]
      rcases t with _ | _ | _ | t
      · rfl
      · simp only [xfv]; rw [xm_wl_ne _ _ (fun q => hn q.2.2.symm)]
      · rfl
      · rfl
def xe (cs : Nat → ClassId) (ad : Nat → Nat → Nat) (σ : xm_M) (q : Nat × Nat) : va_E := match xm_nth xm_ak q.1 with
  | 0 => .inr (xm_nth xm_cis q.1, xfl ad σ q.1 q.2 0 (xm_nthL xm_ftt q.1))
  | 3 => .inl (cs 3, xm_nth xm_al q.1, .inr (.inl (σ.2.1 q.1 q.2)))
  | 4 => .inl (cs 4, xm_nth xm_al q.1, .inr (.inr (.inr (.inr fun i => some (ad 10 i)))))
  | e => .inl (cs e, xm_nth xm_al q.1, .inl (σ.1 q.1 q.2))
def xw (cs : Nat → ClassId) (ad : Nat → Nat → Nat) (σ : xm_M) : va_W := xprs.map fun q => (ad q.1 q.2, xe cs ad σ q)
theorem xprs_nodup : xprs.Nodup := by decide
theorem xw_get {cs : Nat → ClassId} {ad : Nat → Nat → Nat} {σ : xm_M} {k j : Nat} (h : (k, j) ∈ xprs) : ∃ i : Nat, xprs[i]? = some (k, j) ∧ (xw cs ad σ)[i]? = some (ad k j, xe cs ad σ (k, j)) := by
  obtain ⟨i, hi⟩ := List.getElem?_of_mem h
  exact ⟨i, hi, by rw [xw, List.getElem?_map, hi]; rfl⟩
theorem xw_set {cs : Nat → ClassId} {ad : Nat → Nat → Nat} {σ σ' : xm_M} {i k j : Nat} (h : xprs[i]? = some (k, j)) (he : ∀ q : Nat × Nat, q ≠ (k, j) → xe cs ad σ' q = xe cs ad σ q) : (xw cs ad σ).set i (ad k j, xe cs ad σ' (k, j)) = xw cs ad σ' := by
  apply List.ext_getElem?
  intro n
  have hl : i < xprs.length := (List.getElem?_eq_some_iff.mp h).1
  rw [List.getElem?_set]
  by_cases hn : i = n
  · subst hn
    rw [if_pos rfl, if_pos (by rw [xw, List.length_map]; exact hl), xw, List.getElem?_map, h]
    rfl
  · rw [if_neg hn, xw, xw, List.getElem?_map, List.getElem?_map]
    cases hq : xprs[n]? with
    | none => rfl
    | some q =>
      have hne : q ≠ (k, j) := by
        intro e
        subst e
        exact hn ((List.getElem?_inj hl xprs_nodup).mp (h.trans hq.symm))
      simp only [Option.map_some]
      rw [he q hne]
-- what a write leaves alone
theorem xfl_same {ad : Nat → Nat → Nat} {σ σ' : xm_M} {k j : Nat} (h1 : ∀ i, σ'.1 k j i = σ.1 k j i) (h2 : ∀ i, σ'.2.1 k j i = σ.2.1 k j i) (ts : List Nat) : ∀ i, xfl ad σ' k j i ts = xfl ad σ k j i ts := by
  induction ts with
  | nil => intro i; rfl
  | cons t r ih =>
    intro i
    simp only [xfl]
    rw [ih (i + 1)]
    congr 1
    rcases t with _ | _ | _ | t
    · simp only [xfv]; rw [h1]
    · simp only [xfv]; rw [h2]
    · simp only [xfv]; rw [h1]
    · rfl
theorem xe_same {cs : Nat → ClassId} {ad : Nat → Nat → Nat} {σ σ' : xm_M} {q : Nat × Nat} (h1 : ∀ i, σ'.1 q.1 q.2 i = σ.1 q.1 q.2 i) (h2 : ∀ i, σ'.2.1 q.1 q.2 i = σ.2.1 q.1 q.2 i) : xe cs ad σ' q = xe cs ad σ q := by
  unfold xe
  rw [xfl_same h1 h2, show σ'.1 q.1 q.2 = σ.1 q.1 q.2 from funext h1, show σ'.2.1 q.1 q.2 = σ.2.1 q.1 q.2 from funext h2]
theorem xe_w {cs : Nat → ClassId} {ad : Nat → Nat → Nat} {σ : xm_M} {k j a : Nat} {x : Int32} : ∀ q : Nat × Nat, q ≠ (k, j) → xe cs ad (xm_w σ k j a x) q = xe cs ad σ q := by
  intro q hq
  exact xe_same (fun i => xm_w_ne _ _ (fun z => hq (Prod.ext z.1 z.2.1))) (fun i => rfl)
theorem xe_wl {cs : Nat → ClassId} {ad : Nat → Nat → Nat} {σ : xm_M} {k j a : Nat} {x : Int64} : ∀ q : Nat × Nat, q ≠ (k, j) → xe cs ad (xm_wl σ k j a x) q = xe cs ad σ q := by
  intro q hq
  exact xe_same (fun i => rfl) (fun i => xm_wl_ne _ _ (fun z => hq (Prod.ext z.1 z.2.1)))
theorem xm_w_upd (σ : xm_M) (k j a : Nat) (x : Int32) : (xm_w σ k j a x).1 k j = upd (σ.1 k j) a x := by
  funext n
  by_cases h : n = a
  · subst h; simp [upd, xm_w_self]
  · rw [xm_w_ne _ _ (fun z => h z.2.2)]; simp [upd, h]
theorem xm_wl_upd (σ : xm_M) (k j a : Nat) (x : Int64) : (xm_wl σ k j a x).2.1 k j = vp_updL (σ.2.1 k j) a x := by
  funext n
  by_cases h : n = a
  · subst h; simp [vp_updL, xm_wl_self]
  · rw [xm_wl_ne _ _ (fun z => h z.2.2)]; simp [vp_updL, h]
theorem xe_obj {cs : Nat → ClassId} {ad : Nat → Nat → Nat} {σ : xm_M} {k j : Nat} (h : xm_nth xm_ak k = 0) : xe cs ad σ (k, j) = .inr (xm_nth xm_cis k, xfl ad σ k j 0 (xm_nthL xm_ftt k)) := by
  simp only [xe, h]
theorem xe_int {cs : Nat → ClassId} {ad : Nat → Nat → Nat} {σ : xm_M} {k j e : Nat} (h : xm_nth xm_ak k = e) (he : e = 1 ∨ e = 2) : xe cs ad σ (k, j) = .inl (cs e, xm_nth xm_al k, .inl (σ.1 k j)) := by
  rcases he with rfl | rfl <;> simp only [xe, h]
theorem xe_long {cs : Nat → ClassId} {ad : Nat → Nat → Nat} {σ : xm_M} {k j : Nat} (h : xm_nth xm_ak k = 3) : xe cs ad σ (k, j) = .inl (cs 3, xm_nth xm_al k, .inr (.inl (σ.2.1 k j))) := by
  simp only [xe, h]
theorem xe_ref {cs : Nat → ClassId} {ad : Nat → Nat → Nat} {σ : xm_M} {k j : Nat} (h : xm_nth xm_ak k = 4) : xe cs ad σ (k, j) = .inl (cs 4, xm_nth xm_al k, .inr (.inr (.inr (.inr fun i => some (ad 10 i))))) := by
  simp only [xe, h]
