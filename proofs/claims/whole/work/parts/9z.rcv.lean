-- What receive does, purely; and what of it the class does. (own work)
abbrev aQ : Type := Int × Int × Int × (Nat → Int) × Int
def cQ (M : zM) : aQ → Prop
  | (wn, sp, df, Z, lo) => M.1 0 0 14 = wn ∧ M.1 0 0 13 = sp ∧ M.1 0 0 12 = df ∧ (∀ q, q < 3 → M.1 16 0 q = Z q) ∧ M.1 0 0 10 = lo
def mQ (M : zM) : aQ → Prop
  | (wn, sp, df, Z, lo) => M.1 18 0 8 = wn ∧ M.1 18 0 10 = sp ∧ M.1 18 0 9 = df ∧ (∀ q, q < 3 → M.1 22 0 q = Z q) ∧ M.1 18 0 27 = lo
def iQ : aQ → Prop
  | (wn, sp, df, Z, lo) => (0 ≤ wn ∧ wn ≤ 100000) ∧ (1 ≤ sp ∧ sp ≤ 1000) ∧ (df = 0 ∨ df = 1) ∧ (∀ q, q < 3 → -200000 ≤ Z q ∧ Z q ≤ 200000) ∧ (lo = 0 ∨ lo = 1)
def aG (s : aS) : Nat → Int := s.2.2.2.1.2
def aT (s : aS) : Int := s.2.2.2.2.2.2
def addB : aS → (Nat → Int) → Int → Int → (Nat → Int) → aS
  | (n, (D, L, F), W, (P, _), r), d, l, f, G' => (n + 1, (fun i => if i = n then d else D i, fun i => if i = n then l else L i, fun i => if i = n then f else F i), W, (P, G'), r)
def clT : aS → aS
  | (n, B, W, PG, H, E, _) => (n, B, W, PG, H, E, 0)
def nxQ : aQ → aQ
  | (wn, r) => (wn + 1, r)
def mTg (l v : Nat → Int) (W : Nat) (s : aS) (q : aQ) (a : Nat) : Int := tgt l v W q.2.2.1 (aG s a) (q.2.2.2.1 a) a
abbrev mvP (l v : Nat → Int) (W : Nat) (s : aS) (q : aQ) : Prop := ∀ a, a < 3 → posA a (mTg l v W s q a) (aG s a)
abbrev mvS (l v : Nat → Int) (W : Nat) (s : aS) (q : aQ) : Prop := ¬ (mTg l v W s q 0 = aG s 0 ∧ mTg l v W s q 1 = aG s 1 ∧ mTg l v W s q 2 = aG s 2)
def qSp (l v : Nat → Int) (W : Nat) : aQ → aQ
  | (wn, sp, r) => (wn, tdOf l v 70 sp W, r)
def qDf (d : Int) : aQ → aQ
  | (wn, sp, _, r) => (wn, sp, d, r)
def qZ (z : Nat → Int) : aQ → aQ
  | (wn, sp, df, _, lo) => (wn, sp, df, z, lo)
def cmR (l v : Nat → Int) (W : Nat) (s : aS) (q : aQ) (out : Int) (s' : aS) (q' : aQ) : Prop :=
  (v 1 = 1 ∧ ((¬ mvP l v W s q ∧ out = -3 ∧ s' = s ∧ q' = q) ∨ (mvP l v W s q ∧ mvS l v W s q ∧ s.1 = 8 ∧ out = -2 ∧ s' = s ∧ q' = q) ∨ (mvP l v W s q ∧ ¬ mvS l v W s q ∧ out = 0 ∧ s' = s ∧ q' = qSp l v W q) ∨
    (mvP l v W s q ∧ mvS l v W s q ∧ s.1 < 8 ∧ out = 0 ∧ s' = addB s (fun a => mTg l v W s q a - aG s a) (len3 (fun a => mTg l v W s q a - aG s a)) (qSp l v W q).2.1 (mTg l v W s q) ∧ q' = qSp l v W q))) ∨
  (v 1 = 4 ∧ ((s.1 = 8 ∧ out = -2 ∧ s' = s ∧ q' = q) ∨ (s.1 < 8 ∧ out = 0 ∧ s' = addB s (fun _ => 0) (tdOf l v 80 0 W) 0 (aG s) ∧ q' = q))) ∨
  (v 1 = 92 ∧ out = 0 ∧ s' = s ∧ q' = qZ (fun a => ogn l v W (aG s a) (q.2.2.2.1 a) a) q) ∨
  ((v 1 = 90 ∨ v 1 = 91) ∧ out = 0 ∧ s' = s ∧ q' = qDf (if v 1 = 91 then 1 else 0) q)
abbrev fL (T : Nat → Int) (n : Int) (w : Nat) : Int := tAt T n (wPs T n w)
abbrev fV (T : Nat → Int) (n : Int) (w : Nat) : Int := wVl T n (wPs T n w)
def rcR (T : Nat → Int) (s : aS) (q : aQ) (ans : Int) (s' : aS) (q' : aQ) : Prop :=
  ((¬ ∃ W, isFr T (aT s) W ∧ fV T (aT s) 0 = q.1) ∧ ans = -1 ∧ s' = clT s ∧ q' = q) ∨
  (∃ W, isFr T (aT s) W ∧ fV T (aT s) 0 = q.1 ∧ ((¬ cOk (fL T (aT s)) (fV T (aT s)) W ∧ ans = -3 ∧ s' = clT s ∧ q' = nxQ q) ∨
    (cOk (fL T (aT s)) (fV T (aT s)) W ∧ ∃ out s1 q1, cmR (fL T (aT s)) (fV T (aT s)) W s q out s1 q1 ∧ ((out = -2 ∧ ans = -2 ∧ s' = clT s1 ∧ q' = q1) ∨ (out = -3 ∧ ans = -3 ∧ s' = clT s1 ∧ q' = nxQ q1) ∨ (out = 0 ∧ ans = q1.1 ∧ s' = clT s1 ∧ q' = nxQ q1)))))
theorem isFr_uq {T : Nat → Int} {n : Int} {W W' : Nat} (h : isFr T n W) (h' : isFr T n W') : W = W' := by
  have a : ¬ W < W' := fun c => h.2.1 (h'.1 W c).1
  have b : ¬ W' < W := fun c => h'.2.1 (h.1 W' c).1
  omega
theorem isFr_wds {T : Nat → Int} {n : Int} {W : Nat} (hk : okT T n) (h : isFr T n W) : wds (fL T n) (fV T n) W ∧ (0 ≤ fV T n 0 ∧ fV T n 0 ≤ 99999) := by
  have hr := wPs_r hk W (fun q hq => (h.1 q hq).2)
  have hk2 := hk.2.1
  have hv : ∀ w, w < W → -99999 ≤ fV T n w ∧ fV T n w ≤ 99999 ∧ (wMi T n (wPs T n w) = 0 → 0 ≤ fV T n w) := by
    intro w hw
    have hf := (h.1 w hw).2
    have hp := wPs_r hk w (fun q hq => (h.1 q (by omega)).2)
    have := wVl_r (T := T) (n := n) (p := wPs T n w) (by omega) hf.1.2 hf.1.1
    exact ⟨this.1, this.2.1, this.2.2.2⟩
  refine ⟨⟨by omega, fun w hw => ⟨(h.1 w hw).1, (hv w hw).1, (hv w hw).2.1⟩⟩, ?_⟩
  have h0 := hv 0 h.2.2.1
  have h1 := h0.2.2 ((h.1 0 h.2.2.1).2.2 rfl)
  omega
-- frames
abbrev sC (k s : Nat) : Prop := (k = 0 ∧ (s = 9 ∨ s = 11 ∨ s = 15)) ∨ (k = 1 ∧ s = 1) ∨ k = 8 ∨ (10 ≤ k ∧ k ≤ 15)
abbrev sQ (k s : Nat) : Prop := (k = 0 ∧ (s = 10 ∨ s = 12 ∨ s = 13 ∨ s = 14)) ∨ k = 16
abbrev pLo : Nat → Nat → Prop := fun k _ => k < 18
theorem cS_eq {M M' : zM} {a : Int} {s : aS} (k : ∀ k j s, sC k s → M'.1 k j s = M.1 k j s) (hs : cS M a s) : cS M' a s := by
  obtain ⟨n, ⟨D, L, F⟩, ⟨w, e, x, md, wt⟩, ⟨P', G⟩, ⟨hd, of, cu⟩, ⟨en, sl⟩, tl⟩ := s
  have k8 : ∀ j s, M'.1 8 j s = M.1 8 j s := fun j s => k 8 j s (by simp [sC])
  have k10 : ∀ j s, M'.1 10 j s = M.1 10 j s := fun j s => k 10 j s (by simp [sC])
  have k11 : ∀ j s, M'.1 11 j s = M.1 11 j s := fun j s => k 11 j s (by simp [sC])
  have eb : ∀ i, bN M' i = bN M i := fun i => by unfold bN bAt; rw [k8]
  obtain ⟨h1, h2, ⟨h3, h4, h5⟩, h6, h7, h8, h9, h10, h11, h12⟩ := hs
  refine ⟨cRow_eq (k8 _ _) (k8 _ _) k11 (fun b => k10 _ _) (fun b => k10 _ _) h1, by rw [k8]; exact h2, ⟨by rw [k8]; exact h3, fun c => cEnt_eq (k8 _ _) (fun i _ _ => k10 _ _) (h4 c), fun c => ?_⟩, fun q hq => ?_, ?_⟩
  · obtain ⟨g1, g2, g3, g4, g5⟩ := h5 c
    rw [eb, k10, k10, k8, k8]
    exact ⟨g1, g2, cEnt_eq (k8 _ _) (fun i _ _ => k10 _ _) g3, g4, g5⟩
  · rw [k 14 0 q (by simp [sC]), k 15 0 q (by simp [sC])]; exact h6 q hq
  · rw [k 0 0 11 (by simp [sC]), k 0 0 9 (by simp [sC]), k 0 0 15 (by simp [sC]), k 12 0 1 (by simp [sC]), k 1 0 1 (by simp [sC])]
    exact ⟨h7, h8, h9, h10, fun q hq => by rw [k 13 0 q (by simp [sC])]; exact h11 q hq, h12⟩
theorem cQ_eq {M M' : zM} {q : aQ} (k : ∀ k j s, sQ k s → M'.1 k j s = M.1 k j s) (h : cQ M q) : cQ M' q := by
  obtain ⟨wn, sp, df, Z, lo⟩ := q
  obtain ⟨h1, h2, h3, h4, h5⟩ := h
  refine ⟨?_, ?_, ?_, fun q hq => ?_, ?_⟩
  · rw [k 0 0 14 (by simp [sQ])]; exact h1
  · rw [k 0 0 13 (by simp [sQ])]; exact h2
  · rw [k 0 0 12 (by simp [sQ])]; exact h3
  · rw [k 16 0 q (by simp [sQ])]; exact h4 q hq
  · rw [k 0 0 10 (by simp [sQ])]; exact h5
-- a block comes
abbrev pAdd : Nat → Nat → Prop := fun k s => k = 10 ∨ k = 11 ∨ (k = 8 ∧ s = 3)
theorem c_add {M M2 : zM} {a K : Int} {s : aS} {d : Nat → Int} {l f : Int} {R : Option zV → zM → Prop} (hs : cS M a s) (hi : iS a K s) (hn : s.1 < 8) (hb : okB1 d l f) (f2 : zfr pAdd zno M M2) (ho : ∀ b, ¬ b = bN M s.1 → ∀ q, M2.1 10 b q = M.1 10 b q ∧ M2.1 11 b q = M.1 11 b q) (h11 : ∀ q, q < 3 → M2.1 11 (bN M s.1) q = d q) (h1 : M2.1 10 (bN M s.1) 1 = l) (h2 : M2.1 10 (bN M s.1) 2 = f * f) (h3 : M2.1 8 0 3 = ((s.1 + 1 : Nat) : Int))
    (h : ∀ M', zfr pAdd zno M M' → cS M' a (addB s d l f (aG s)) → R none M') : zF 38 [zR 8 0] M2 R := by
  obtain ⟨n, ⟨D, L, F⟩, ⟨w, e, x, md, wt⟩, ⟨P, G⟩, ⟨hd, of, cu⟩, ⟨en, sl⟩, tl⟩ := s
  dsimp only at hn ho h11 h1 h2 h3
  obtain ⟨r, ha, ⟨w4, wk0, wk1⟩, hrs⟩ := hs
  obtain ⟨i1, i2, i3, ⟨i41, i42⟩, i5, i6, i7, i8, i9, i10, i11⟩ := hi
  have k8 : ∀ q, ¬ q = 3 → M2.1 8 0 q = M.1 8 0 q := fun q hq => f2.1 8 0 q (by simp [pAdd, hq])
  have kk : ∀ k, ¬ k = 10 → ¬ k = 11 → ¬ k = 8 → ∀ j q, M2.1 k j q = M.1 k j q := fun k c1 c2 c3 j q => f2.1 k j q (by simp [pAdd, c1, c2, c3])
  have eb : ∀ i, bN M2 i = bN M i := fun i => by unfold bN bAt; rw [k8 2 (by omega)]
  have hne : ∀ i, i < n → ¬ bN M i = bN M n := fun i hi hq => by have := bN_inj r.1 (by omega) (by omega) hq; omega
  have r2 : cRow M2 (n + 1) (fun i => if i = n then d else D i) (fun i => if i = n then l else L i) (fun i => if i = n then f else F i) := by
    refine ⟨by rw [k8 2 (by omega)]; exact r.1, h3, by omega, fun i hi => ?_⟩
    rw [eb]
    by_cases ei : i = n
    · subst ei
      dsimp only
      rw [if_pos rfl, if_pos rfl, if_pos rfl]
      exact ⟨h11, h1, h2⟩
    · dsimp only
      rw [if_neg ei, if_neg ei, if_neg ei]
      have hh := r.2.2.2 i (by omega)
      have hq := ho (bN M i) (hne i (by omega))
      exact ⟨fun q hq2 => by rw [(hq q).2]; exact hh.1 q hq2, by rw [(hq 1).1]; exact hh.2.1, by rw [(hq 2).1]; exact hh.2.2⟩
  have B2 : okB (n + 1) (fun i => if i = n then d else D i) (fun i => if i = n then l else L i) (fun i => if i = n then f else F i) := by
    intro i hi
    by_cases ei : i = n
    · subst ei
      dsimp only
      rw [if_pos rfl, if_pos rfl, if_pos rfl]; exact hb
    · dsimp only
      rw [if_neg ei, if_neg ei, if_neg ei]; exact i3 i (by omega)
  have a2 : M2.1 8 0 1 = a := by rw [k8 1 (by omega)]; exact ha
  have w2 : M2.1 8 0 4 = w := by rw [k8 4 (by omega)]; exact w4
  have fin : ∀ M3, zfr p38 zno M2 M3 → cWk M3 (n + 1) (qC (fun i => if i = n then d else D i) (fun i => if i = n then f else F i)) (qD a (fun i => if i = n then l else L i)) w e x md wt → R none M3 := by
    intro M3 f3 wk3
    have k3 : ∀ k, ¬ k = 10 → ∀ j q, M3.1 k j q = M2.1 k j q := fun k c1 j q => f3.1 k j q (by simp [p38, c1])
    have k33 : ∀ k, ¬ k = 10 → ¬ k = 11 → ¬ k = 8 → ∀ j q, M3.1 k j q = M.1 k j q := fun k c1 c2 c3 j q => by rw [k3 k c1]; exact kk k c1 c2 c3 j q
    exact h M3 (f2.trans (f3.mono (fun k q hp => Or.inl hp.1) (fun _ _ hp => hp))) ⟨cRow_eq (k3 8 (by omega) _ _) (k3 8 (by omega) _ _) (fun b q => k3 11 (by omega) _ _) (fun b => f3.1 10 b 1 (by simp [p38])) (fun b => f3.1 10 b 2 (by simp [p38])) r2, by rw [k3 8 (by omega)]; exact a2, wk3, cRs_eq (fun q => k33 0 (by omega) (by omega) (by omega) _ _) (fun q => k33 14 (by omega) (by omega) (by omega) _ _) (fun q => k33 15 (by omega) (by omega) (by omega) _ _) (k33 12 (by omega) (by omega) (by omega) _ _) (fun q => k33 13 (by omega) (by omega) (by omega) _ _) (k33 1 (by omega) (by omega) (by omega) _ _) hrs⟩
  rcases i41 with c | c
  · subst c
    refine c38w0 r2 B2 a2 i1 w2 (fun M3 f3 E3 => fin M3 f3 ⟨by rw [f3.1 8 0 4 (by simp [p38])]; exact w2, fun _ => E3, fun q => absurd q (by decide)⟩)
  · subst c
    obtain ⟨g1, g2, g3, g4, g5⟩ := wk1 rfl
    obtain ⟨j1, j2, j3, j4, j5, j6, j7, j8⟩ := i42 rfl
    have hq0 := ho (bN M 0) (hne 0 (by omega))
    refine c38w1 (x := x) r2 B2 a2 i1 w2 (by rw [eb, (hq0 4).1]; exact g2) j3 (fun M3 f3 e3 E3 => fin M3 f3 ⟨by rw [f3.1 8 0 4 (by simp [p38])]; exact w2, fun q => absurd q (by decide), fun _ => ⟨?_, ?_, E3, ?_, ?_⟩⟩)
    · rw [bN_fr f3, e3, eb, (hq0 3).1]; exact g1
    · rw [bN_fr f3, f3.1 10 _ 4 (by simp [p38]), eb, (hq0 4).1]; exact g2
    · rw [f3.1 8 0 5 (by simp [p38]), k8 5 (by omega)]; exact g4
    · rw [f3.1 8 0 6 (by simp [p38]), k8 6 (by omega)]; exact g5
