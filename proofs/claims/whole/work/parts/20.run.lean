-- runs of the machine, and what a run comes to (own work). The tables xm_rows, xm_ml, xm_rs, xm_hd stand ahead.
abbrev xm_Re : Type := (Option xm_V ⊕ Nat) × xm_M × Bool × Nat
def xm_pl : List xm_V → xm_L
  | [] => []
  | v :: r => bif xm_isl (some v) then some v :: none :: xm_pl r else some v :: xm_pl r
def xm_pad : Nat → xm_L → xm_L
  | 0, _ => []
  | n + 1, [] => none :: xm_pad n []
  | n + 1, a :: r => a :: xm_pad n r
def xm_en (m : Nat) (as : List xm_V) (σ : xm_M) : xm_S := (0, xm_pad (xm_ml m) (xm_pl as), [], σ, true)
def xm_stp (k pc : Nat) (L : xm_L) (st : List xm_V) (σ : xm_M) (cl : Bool) : Option xm_O := match xm_row k pc with
  | some (_, i, n, a, b, c, d) => xm_ex (xm_rs k) i pc (pc + n) a b c d L st σ cl
  | none => none
def xm_step (k : Nat) : xm_S → Option xm_O
  | (pc, L, st, σ, cl) => xm_stp k pc L st σ cl
def xm_add (n : Nat) : Option xm_Re → Option xm_Re
  | some r => some (r.1, r.2.1, r.2.2.1, n + r.2.2.2)
  | none => none
-- behind a call: r: what it came to; s: the caller behind it; go: how the caller goes on
def xm_bk (k pc : Nat) (r : xm_Re) (s : xm_S) (go : xm_S → Option xm_Re) : Option xm_Re := match r.1 with
  | .inl v => xm_add r.2.2.2 (go (s.1, s.2.1, v.toList ++ s.2.2.1, r.2.1, s.2.2.2.2 && r.2.2.1))
  | .inr x => match xm_hd k pc x with
    | some c => some (.inl (some (xI c)), r.2.1, s.2.2.2.2 && r.2.2.1, r.2.2.2)
    | none => bif (s.2.2.2.2 && r.2.2.1) && xm_nh k then some (.inr x, r.2.1, true, r.2.2.2) else none
def xm_run : Nat → Nat → xm_S → Option xm_Re
  | 0, _, _ => none
  | n + 1, k, s => match xm_step k s with
    | none => none
    | some (.inl t) => xm_run n k t
    | some (.inr (.inl q)) => bif q.1 then xm_run n k q.2 else none
    | some (.inr (.inr (.inl q))) => bif q.1 then xm_run n k q.2.1 else xm_run n k q.2.2
    | some (.inr (.inr (.inr (.inl q)))) => match xm_run n q.1 (xm_en q.1 q.2.1 q.2.2.2.2.2.1) with
      | none => none
      | some r => xm_bk k s.1 r q.2.2 (fun t => xm_run n k t)
    | some (.inr (.inr (.inr (.inr (.inl q))))) => bif q.1 then some (.inl q.2, s.2.2.2.1, s.2.2.2.2, 0) else none
    | some (.inr (.inr (.inr (.inr (.inr x))))) => some (.inr x, s.2.2.2.1, true, 1)
theorem xm_bk_mono {k pc : Nat} {r : xm_Re} {s : xm_S} {f g : xm_S → Option xm_Re} (h : ∀ t q, f t = some q → g t = some q) {q : xm_Re} (hq : xm_bk k pc r s f = some q) : xm_bk k pc r s g = some q := by
  obtain ⟨rv, rest⟩ := r
  cases rv with
  | inl v =>
    simp only [xm_bk] at hq ⊢
    cases hf : f (s.1, s.2.1, v.toList ++ s.2.2.1, rest.1, s.2.2.2.2 && rest.2.1) with
    | none => rw [hf] at hq; simp [xm_add] at hq
    | some z => rw [hf] at hq; rw [h _ _ hf]; exact hq
  | inr x => exact hq
theorem xm_mono1 : ∀ (n k : Nat) (s : xm_S) (q : xm_Re), xm_run n k s = some q → xm_run (n + 1) k s = some q := by
  intro n
  induction n with
  | zero => intro k s q h; simp [xm_run] at h
  | succ n ih =>
    intro k s q h
    rw [xm_run] at h
    rw [xm_run]
    cases hs : xm_step k s with
    | none => rw [hs] at h; exact h
    | some o =>
      rw [hs] at h
      rcases o with t | q1 | q2 | q3 | q4 | x
      · exact ih _ _ _ h
      · dsimp only at h ⊢
        cases hb : q1.1 with
        | true => rw [hb] at h; exact ih _ _ _ h
        | false => rw [hb] at h; simp at h
      · dsimp only at h ⊢
        cases hb : q2.1 with
        | true => rw [hb] at h; exact ih _ _ _ h
        | false => rw [hb] at h; exact ih _ _ _ h
      · dsimp only at h ⊢
        cases hr : xm_run n q3.1 (xm_en q3.1 q3.2.1 q3.2.2.2.2.2.1) with
        | none => rw [hr] at h; simp at h
        | some r =>
          rw [hr] at h
          rw [ih _ _ _ hr]
          exact xm_bk_mono (fun t z hz => ih _ _ _ hz) h
      · exact h
      · exact h
theorem xm_mono {n m : Nat} (h : n ≤ m) {k : Nat} {s : xm_S} {q : xm_Re} (hq : xm_run n k s = some q) : xm_run m k s = some q := by
  induction h with
  | refl => exact hq
  | step _ ih => exact xm_mono1 _ _ _ _ ih
-- a run comes to an end with Q
def xT (k : Nat) (s : xm_S) (Q : xm_Re → Prop) : Prop := ∃ n q, xm_run n k s = some q ∧ Q q
theorem xT.mono {k : Nat} {s : xm_S} {Q Q' : xm_Re → Prop} (h : xT k s Q) (hQ : ∀ q, Q q → Q' q) : xT k s Q' := by
  obtain ⟨n, q, h1, h2⟩ := h
  exact ⟨n, q, h1, hQ q h2⟩
theorem xT.nx {k : Nat} {s t : xm_S} {Q : xm_Re → Prop} (hs : xm_step k s = oN t) (h : xT k t Q) : xT k s Q := by
  obtain ⟨n, q, h1, h2⟩ := h
  exact ⟨n + 1, q, by rw [xm_run, hs]; exact h1, h2⟩
def xm_it : Nat → Nat → xm_S → Option xm_S
  | 0, _, s => some s
  | n + 1, k, s => match xm_step k s with
    | some (.inl t) => xm_it n k t
    | _ => none
theorem xT.it (n : Nat) {k : Nat} {s t : xm_S} {Q : xm_Re → Prop} (hs : xm_it n k s = some t) (h : xT k t Q) : xT k s Q := by
  induction n generalizing s with
  | zero => cases hs; exact h
  | succ n ih =>
    rw [xm_it] at hs
    cases ho : xm_step k s with
    | none => rw [ho] at hs; cases hs
    | some o =>
      rw [ho] at hs
      rcases o with u | u
      · exact xT.nx ho (ih hs)
      · cases hs
theorem xT.chk {k : Nat} {s t : xm_S} {b : Bool} {Q : xm_Re → Prop} (hs : xm_step k s = oC b t) (hb : b = true) (h : xT k t Q) : xT k s Q := by
  obtain ⟨n, q, h1, h2⟩ := h
  exact ⟨n + 1, q, by rw [xm_run, hs]; subst hb; exact h1, h2⟩
theorem xT.br {k : Nat} {s t u : xm_S} {b : Bool} {Q : xm_Re → Prop} (hs : xm_step k s = oB b t u) (h1 : b = true → xT k t Q) (h2 : b = false → xT k u Q) : xT k s Q := by
  cases b with
  | true => obtain ⟨n, q, a1, a2⟩ := h1 rfl; exact ⟨n + 1, q, by rw [xm_run, hs]; exact a1, a2⟩
  | false => obtain ⟨n, q, a1, a2⟩ := h2 rfl; exact ⟨n + 1, q, by rw [xm_run, hs]; exact a1, a2⟩
theorem xT.call {k m pc pn : Nat} {s : xm_L × List xm_V × xm_M × Bool} {as : List xm_V} {L : xm_L} {st : List xm_V} {σ : xm_M} {cl : Bool} {P Q : xm_Re → Prop} (hs : xm_step k (pc, s) = oK m as (pn, L, st, σ, cl)) (hm : xT m (xm_en m as σ) P)
    (hr : ∀ r, P r → (∃ v, r.1 = .inl v ∧ xT k (pn, L, v.toList ++ st, r.2.1, cl && r.2.2.1) (fun q => Q (q.1, q.2.1, q.2.2.1, r.2.2.2 + q.2.2.2))) ∨
      (∃ x c, r.1 = .inr x ∧ xm_hd k pc x = some c ∧ Q (.inl (some (xI c)), r.2.1, cl && r.2.2.1, r.2.2.2)) ∨
      (∃ x, r.1 = .inr x ∧ xm_hd k pc x = none ∧ ((cl && r.2.2.1) && xm_nh k) = true ∧ Q (.inr x, r.2.1, true, r.2.2.2))) : xT k (pc, s) Q := by
  obtain ⟨n, r, h1, h2⟩ := hm
  obtain ⟨rv, σ', c', e'⟩ := r
  rcases hr _ h2 with ⟨v, e1, n2, q, h3, h4⟩ | ⟨x, c, e1, e2, h3⟩ | ⟨x, e1, e2, e3, h3⟩
  · dsimp only at e1; subst e1
    refine ⟨max n n2 + 1, (q.1, q.2.1, q.2.2.1, e' + q.2.2.2), ?_, h4⟩
    rw [xm_run, hs]
    dsimp only
    rw [xm_mono (Nat.le_max_left n n2) h1]
    dsimp only [xm_bk] at h3 ⊢
    rw [xm_mono (Nat.le_max_right n n2) h3]
    rfl
  · dsimp only at e1; subst e1
    refine ⟨n + 1, _, ?_, h3⟩
    rw [xm_run, hs]
    dsimp only
    rw [h1]
    dsimp only [xm_bk]
    rw [e2]
  · dsimp only at e1; subst e1
    refine ⟨n + 1, _, ?_, h3⟩
    rw [xm_run, hs]
    dsimp only
    rw [h1]
    dsimp only [xm_bk]
    rw [e2]
    dsimp only at e3 ⊢
    rw [e3]
    rfl
-- a call that comes back
theorem xT.calls {k m pc pn : Nat} {s : xm_L × List xm_V × xm_M × Bool} {as : List xm_V} {L : xm_L} {st : List xm_V} {σ : xm_M} {cl : Bool} {P Q : xm_Re → Prop} (hs : xm_step k (pc, s) = oK m as (pn, L, st, σ, cl)) (hm : xT m (xm_en m as σ) P)
    (hr : ∀ v σ' c' e', P (.inl v, σ', c', e') → xT k (pn, L, v.toList ++ st, σ', cl && c') (fun q => Q (q.1, q.2.1, q.2.2.1, e' + q.2.2.2))) (hn : ∀ r, P r → ∃ v, r.1 = .inl v) : xT k (pc, s) Q :=
  xT.call hs hm fun r h => by
    obtain ⟨v, hv⟩ := hn r h
    obtain ⟨rv, σ', c', e'⟩ := r
    dsimp only at hv; subst hv
    exact Or.inl ⟨v, rfl, hr v σ' c' e' h⟩
theorem xT.ret {k : Nat} {s : xm_S} {b : Bool} {v : Option xm_V} {Q : xm_Re → Prop} (hs : xm_step k s = oR b v) (hb : b = true) (h : Q (.inl v, s.2.2.2.1, s.2.2.2.2, 0)) : xT k s Q :=
  ⟨1, _, by rw [xm_run, hs]; subst hb; rfl, h⟩
theorem xT.thr {k x : Nat} {s : xm_S} {Q : xm_Re → Prop} (hs : xm_step k s = oT x) (h : Q (.inr x, s.2.2.2.1, true, 1)) : xT k s Q :=
  ⟨1, _, by rw [xm_run, hs], h⟩
