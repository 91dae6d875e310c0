-- A tick of the class. (own work)
def endB (a : Int) : aS → aS
  | (n, (D, L, F), (_, e, x, md, wt), (P, G), (hd, of, cu), (en, sl), tl) =>
    if cu = -1 then
      (if hd = 0 ∧ 2 ≤ n then bgn a x (n - 1, (fun i => D (i + 1), fun i => L (i + 1), fun i => F (i + 1)), (0, e, x, md, wt), (P, G), (hd, of, cu), (en + 1, kSl (en + 1) P sl 5), tl)
      else (n - 1, (fun i => D (i + 1), fun i => L (i + 1), fun i => F (i + 1)), (0, e, x, md, wt), (P, G), (hd, of, cu), (en + 1, kSl (en + 1) P sl 5), tl))
    else (0, (fun i => D (i + 1), fun i => L (i + 1), fun i => F (i + 1)), (0, e, x, md, wt), (P, P), (0, 1, -1), (en + 1, kSl (en + 1) P sl cu), 0)
def beg (a : Int) : aS → aS
  | (n, B, (w, e, x, md, wt), PG, (hd, of, cu), r) => if w = 0 ∧ hd = 0 ∧ 1 ≤ n then bgn a 0 (n, B, (w, e, x, md, wt), PG, (hd, of, cu), r) else (n, B, (w, e, x, md, wt), PG, (hd, of, cu), r)
-- after its beginning: the state, the bits, whether a leading step was made
def tck1 (a : Int) : aS → aS × Int × Int
  | (n, (D, L, F), (w, e, x, md, wt), (P, G), r) =>
    if w = 0 then ((n, (D, L, F), (w, e, x, md, wt), (P, G), r), 0, 0)
    else if 2 ≤ wt then ((n, (D, L, F), (w, e, x, md, wt - 1), (P, G), r), 0, 0)
    else if F 0 = 0 then (endB a (n, (D, L, F), (w, e, x, md, wt - 1), (P, G), r), 0, 0)
    else if md + 1 < L 0 then ((n, (D, L, F), (w, e, x, md + 1, bWt a (L 0) (F 0) e x (md + 2)), (fun q => P q + sDl (D 0) (L 0) md q, G), r), sBt (D 0) (L 0) md, 1)
    else (endB a (n, (D, L, F), (w, e, x, md + 1, 0), (fun q => P q + sDl (D 0) (L 0) md q, G), r), sBt (D 0) (L 0) md, 1)
def tck (a : Int) (s : aS) : aS × Int × Int := tck1 a (beg a s)
abbrev p83 : Nat → Nat → Prop := fun k s => k = 8 ∨ k = 10 ∨ k = 12 ∨ k = 13 ∨ k = 14 ∨ k = 15 ∨ (k = 1 ∧ s = 1) ∨ (k = 0 ∧ (s = 9 ∨ s = 11 ∨ s = 15))
theorem lo83 : loK p83 := fun k s h => by rcases h with h | h | h | h | h | h | h | h <;> omega
theorem c81 {M : zM} {R : Option zV → zM → Prop} (h : R none (z_w (z_w (z_w (z_cp (z_w (z_w (z_w M 0 0 9 0) 8 0 3 0) 8 0 4 0) 14 0 15 0) 1 0 1 0) 0 0 15 (-1)) 0 0 11 0)) : zF 81 [zR 0 0] M R :=
  g81_0 (c80 ⟨_, rfl, fun _ => c40a ⟨rfl, fun _ => c4 ⟨_, rfl, fun _ => ⟨rfl, h⟩⟩⟩⟩)
theorem cRow_0 {M : zM} {D D' : Nat → Nat → Int} {L F L' F' : Nat → Int} {n : Nat} (h : cRow M n D L F) {M' : zM} (h2 : M'.1 8 0 2 = M.1 8 0 2) (h3 : M'.1 8 0 3 = 0) : cRow M' 0 D' L' F' :=
  ⟨by rw [h2]; exact h.1, h3, by omega, fun i hi => by omega⟩
theorem cRs_eq {M M' : zM} {P G : Nat → Int} {hd of cu en : Int} {sl : Nat → Int} {tl : Int} (h0 : ∀ s, M'.1 0 0 s = M.1 0 0 s) (h14 : ∀ s, M'.1 14 0 s = M.1 14 0 s) (h15 : ∀ s, M'.1 15 0 s = M.1 15 0 s) (h12 : M'.1 12 0 1 = M.1 12 0 1) (h13 : ∀ s, M'.1 13 0 s = M.1 13 0 s) (h1 : M'.1 1 0 1 = M.1 1 0 1) (h : cRs M P G hd of cu en sl tl) : cRs M' P G hd of cu en sl tl := by
  obtain ⟨g1, g2, g3, g4, g5, g6, g7⟩ := h
  exact ⟨fun q hq => by rw [h14, h15]; exact g1 q hq, by rw [h0]; exact g2, by rw [h0]; exact g3, by rw [h0]; exact g4, by rw [h12]; exact g5, fun k hk => by rw [h13]; exact g6 k hk, by rw [h1]; exact g7⟩
theorem okB_sh {n : Nat} {D : Nat → Nat → Int} {L F : Nat → Int} (h : okB n D L F) : okB (n - 1) (fun i => D (i + 1)) (fun i => L (i + 1)) (fun i => F (i + 1)) := fun i hi => h (i + 1) (by omega)
theorem cEnt_sh {M M' : zM} {n : Nat} {D : Nat → Nat → Int} {L F : Nat → Int} {a : Int} {x : Nat} (hn : 1 ≤ n) (hb : ∀ i, bN M' i = bN M (i + 1)) (h3 : ∀ b, M'.1 10 b 3 = M.1 10 b 3) (h : cEnt M n (qC D F) (qD a L) 1 x) : cEnt M' (n - 1) (qC (fun i => D (i + 1)) (fun i => F (i + 1))) (qD a (fun i => L (i + 1))) 0 x := by
  intro i i1 i2
  rw [hb, h3, h (i + 1) (by omega) (by omega)]
  have e1 := pE_shift (c := qC D F) (d := qD a L) (n := n - 1) (st := 0) (g := x) (q := i) (by omega)
  rw [show n - 1 + 1 = n by omega] at e1
  rw [← e1]
  refine congrArg _ (pE_congr (by omega) (fun j j1 j2 => ?_) (fun k _ => rfl))
  unfold qC
  dsimp only
  rw [show j - 1 + 1 = j by omega, show j + 1 - 1 = j by omega]
theorem c82 {M : zM} {a : Int} {n : Nat} {D : Nat → Nat → Int} {L F P G sl : Nat → Int} {w : Int} {e x : Nat} {md wt hd cu en tl : Int} {R : Option zV → zM → Prop} (hr : cRow M n D L F) (hB : okB n D L F) (hn : 1 ≤ n) (ha : M.1 8 0 1 = a) (ha1 : 1 ≤ a ∧ a ≤ 1000) (hE : cEnt M n (qC D F) (qD a L) 1 x) (hx : x ≤ 1000000)
    (hs : cRs M P G hd 0 cu en sl tl) (hhd : hd = 0 ∨ hd = 1) (hcu : -1 ≤ cu ∧ cu ≤ 5) (hen : 0 ≤ en ∧ en ≤ 100000)
    (h : ∀ M', zfr p83 zno M M' → cS M' a (endB a (n, (D, L, F), (w, e, x, md, wt), (P, G), (hd, 0, cu), (en, sl), tl)) → R none M') : zF 82 [zR 0 0] M R := by
  obtain ⟨s1, s2, s3, s4, s5, s6, s7⟩ := hs
  have h8 := hr.2.2.1
  refine g82_0 (c78 hr hn (fun M1 f1 r1 b1 w1 => ⟨rfl, fun _ => ?_⟩))
  have k1 : ∀ k, ¬ k = 8 → ∀ j s, M1.1 k j s = M.1 k j s := fun k hk j s => f1.1 k j s (by simp [p78, hk])
  have f1' : zfr p83 zno M M1 := f1.mono (fun k s hp => Or.inl hp.1) (fun _ _ hp => hp)
  have a1 : M1.1 8 0 1 = a := by rw [f1.1 8 0 1 (by simp [p78])]; exact ha
  have E1 := cEnt_sh (M := M) (M' := M1) hn b1 (fun b => k1 10 (by omega) _ _) hE
  have B1 := okB_sh hB
  have keep : ∀ (wd : Int) (R' : Option zV → zM → Prop), 0 ≤ wd ∧ wd ≤ 5 → (∀ M2, zfr p83 zno M M2 → cRow M2 (n - 1) (fun i => D (i + 1)) (fun i => L (i + 1)) (fun i => F (i + 1)) → M2.1 8 0 1 = a → M2.1 8 0 4 = 0 → cEnt M2 (n - 1) (qC (fun i => D (i + 1)) (fun i => F (i + 1))) (qD a (fun i => L (i + 1))) 0 x → cRs M2 P G hd 0 cu (en + 1) (kSl (en + 1) P sl wd) tl → R' none M2) → zF 79 [zR 12 0, zR 14 0, zI wd] M1 R' := by
    intro wd R' hwd hR
    refine c79 (en := en) (P := P) (sl := sl) (by rw [k1 12 (by omega)]; exact s5) hen (fun k hk => by rw [k1 13 (by omega)]; exact s6 k hk) (fun q hq => by rw [k1 14 (by omega)]; exact (s1 q hq).1) hwd (fun M2 f2 e2 sl2 => ?_)
    have k2 : ∀ k, ¬ k = 13 → ¬ k = 12 → ∀ j s, M2.1 k j s = M1.1 k j s := fun k hk hk2 j s => f2.1 k j s (by simp [p79, hk, hk2])
    have k12 : ∀ k, ¬ k = 13 → ¬ k = 12 → ¬ k = 8 → ∀ j s, M2.1 k j s = M.1 k j s := fun k h1 h2 h3 j s => by rw [k2 k h1 h2]; exact k1 k h3 j s
    refine hR M2 (f1'.trans (f2.mono (fun k s hp => ?_) (fun _ _ hp => hp))) (cRow_eq (k2 8 (by omega) (by omega) _ _) (k2 8 (by omega) (by omega) _ _) (fun b s => k2 11 (by omega) (by omega) _ _) (fun b => k2 10 (by omega) (by omega) _ _) (fun b => k2 10 (by omega) (by omega) _ _) r1) (by rw [k2 8 (by omega) (by omega)]; exact a1) (by rw [k2 8 (by omega) (by omega)]; exact w1) (cEnt_eq (k2 8 (by omega) (by omega) _ _) (fun i _ _ => k2 10 (by omega) (by omega) _ _) E1) ⟨fun q hq => ?_, ?_, ?_, ?_, e2, sl2, ?_⟩
    · rcases hp with hp | hp
      · exact Or.inr (Or.inr (Or.inr (Or.inl hp)))
      · exact Or.inr (Or.inr (Or.inl hp.1))
    · rw [k12 14 (by omega) (by omega) (by omega), k12 15 (by omega) (by omega) (by omega)]; exact s1 q hq
    · rw [k12 0 (by omega) (by omega) (by omega)]; exact s2
    · rw [k12 0 (by omega) (by omega) (by omega)]; exact s3
    · rw [k12 0 (by omega) (by omega) (by omega)]; exact s4
    · rw [k12 1 (by omega) (by omega) (by omega)]; exact s7
  rw [k1 0 (by omega), s4]
  refine ⟨by omega, fun c => keep 5 _ (by omega) (fun M2 f2 r2 a2 w2 E2 s2' => ⟨rfl, fun _ => ?_⟩), fun c => keep cu _ (by omega) (fun M2 f2 r2 a2 w2 E2 s2' => ⟨rfl, fun _ => ?_⟩)⟩
  · -- no cut
    simp only [endB] at h
    rw [if_pos c] at h
    rw [s2'.2.1]
    refine ⟨by omega, fun c2 => ?_, fun c2 => ?_⟩
    · by_cases hn2 : 2 ≤ n
      · rw [if_pos ⟨c2, hn2⟩] at h
        refine c71 r2 B1 a2 ha1 w2 (by omega) hx E2 (fun M3 f3 r3 wk3 => ⟨rfl, fun _ => ⟨rfl, ?_⟩⟩)
        have k3 : ∀ k, ¬ k = 8 → ¬ k = 10 → ∀ j s, M3.1 k j s = M2.1 k j s := fun k h1 h2 j s => f3.1 k j s (by simp [p71, h1, h2])
        refine h M3 (f2.trans (f3.mono (fun k s hp => ?_) (fun _ _ hp => hp))) ⟨r3, by rw [f3.1 8 0 1 (by simp [p71])]; exact a2, wk3, cRs_eq (fun s => k3 0 (by omega) (by omega) _ _) (fun s => k3 14 (by omega) (by omega) _ _) (fun s => k3 15 (by omega) (by omega) _ _) (k3 12 (by omega) (by omega) _ _) (fun s => k3 13 (by omega) (by omega) _ _) (k3 1 (by omega) (by omega) _ _) s2'⟩
        rcases hp with hp | hp
        · exact Or.inl hp.1
        · exact Or.inr (Or.inl hp.1)
      · rw [if_neg (fun q => hn2 q.2)] at h
        have e0 : n - 1 = 0 := by omega
        refine g71_0 ?_
        rw [r2.2.1, e0]
        refine ⟨by omega, fun c3 => absurd rfl c3, fun _ => ⟨rfl, rfl, fun _ => ⟨rfl, h M2 f2 ⟨r2, a2, ⟨w2, fun _ i i1 i2 => by omega, fun c3 => absurd c3 (by decide)⟩, s2'⟩⟩⟩⟩
    · rw [if_neg (fun q => c2 q.1)] at h
      refine c38w0 r2 B1 a2 ha1 w2 (fun M3 f3 E3 => ⟨rfl, fun _ => ⟨rfl, ?_⟩⟩)
      have k3 : ∀ k, ¬ k = 10 → ∀ j s, M3.1 k j s = M2.1 k j s := fun k h1 j s => f3.1 k j s (by simp [p38, h1])
      refine h M3 (f2.trans (f3.mono (fun k s hp => Or.inr (Or.inl hp.1)) (fun _ _ hp => hp))) ⟨cRow_eq (k3 8 (by omega) _ _) (k3 8 (by omega) _ _) (fun b s => k3 11 (by omega) _ _) (fun b => f3.1 10 b 1 (by simp [p38])) (fun b => f3.1 10 b 2 (by simp [p38])) r2, by rw [k3 8 (by omega)]; exact a2, ⟨by rw [k3 8 (by omega)]; exact w2, fun _ => E3, fun c3 => absurd c3 (by decide)⟩, cRs_eq (fun s => k3 0 (by omega) _ _) (fun s => k3 14 (by omega) _ _) (fun s => k3 15 (by omega) _ _) (k3 12 (by omega) _ _) (fun s => k3 13 (by omega) _ _) (k3 1 (by omega) _ _) s2'⟩
  · simp only [endB] at h
    rw [if_neg c] at h
    refine c81 ⟨rfl, fun _ => ⟨rfl, ?_⟩⟩
    obtain ⟨t1, t2, t3, t4, t5, t6, t7⟩ := s2'
    have f3 : zfr p83 zno M2 (z_w (z_w (z_w (z_cp (z_w (z_w (z_w M2 0 0 9 0) 8 0 3 0) 8 0 4 0) 14 0 15 0) 1 0 1 0) 0 0 15 (-1)) 0 0 11 0) := by
      unfold z_cp
      exact (((((((((zfr.refl _ _ _).w 0 0 9 _ (by simp [p83])).w 8 0 3 _ (by simp [p83])).w 8 0 4 _ (by simp [p83])).w 15 0 0 _ (by simp [p83])).w 15 0 1 _ (by simp [p83])).w 15 0 2 _ (by simp [p83])).w 1 0 1 _ (by simp [p83])).w 0 0 15 _ (by simp [p83])).w 0 0 11 _ (by simp [p83])
    refine h _ (f2.trans f3) ⟨cRow_0 r2 rfl rfl, a2, ⟨rfl, fun _ i i1 i2 => by omega, fun c3 => absurd c3 (by decide)⟩, fun q hq => ?_, rfl, rfl, rfl, t5, t6, rfl⟩
    have e15 : (z_w (z_w (z_w (z_cp (z_w (z_w (z_w M2 0 0 9 0) 8 0 3 0) 8 0 4 0) 14 0 15 0) 1 0 1 0) 0 0 15 (-1)) 0 0 11 0).1 15 0 q = M2.1 14 0 q := by
      rcases (show q = 0 ∨ q = 1 ∨ q = 2 by omega) with e | e | e <;> subst e <;> rfl
    have e14 : (z_w (z_w (z_w (z_cp (z_w (z_w (z_w M2 0 0 9 0) 8 0 3 0) 8 0 4 0) 14 0 15 0) 1 0 1 0) 0 0 15 (-1)) 0 0 11 0).1 14 0 q = M2.1 14 0 q := by
      rcases (show q = 0 ∨ q = 1 ∨ q = 2 by omega) with e | e | e <;> subst e <;> rfl
    rw [e15, e14]
    exact ⟨(t1 q hq).1, (t1 q hq).1⟩
