-- Many ticks. (own work)
def aOf (s : aS) : Int := s.2.2.2.2.1.2.1
def aRun (a : Int) : Nat → aS → aS × Int
  | 0, s => (s, 0)
  | r + 1, s => if aOf s = 1 then (s, 0) else ((aRun a r (tck a s).1).1, (tck a s).2.2 + (aRun a r (tck a s).1).2)
theorem aRun_on {a : Int} {r : Nat} {s : aS} (h : aOf s = 0) : aRun a (r + 1) s = ((aRun a r (tck a s).1).1, (tck a s).2.2 + (aRun a r (tck a s).1).2) := by
  rw [aRun, if_neg (by omega)]
theorem aRun_off {a : Int} {r : Nat} {s : aS} (h : aOf s = 1) : aRun a r s = (s, 0) := by
  cases r with
  | zero => rfl
  | succ r => rw [aRun, if_pos h]
theorem iS_of {a K : Int} {s : aS} (h : iS a K s) : aOf s = 0 ∨ aOf s = 1 := by
  obtain ⟨n, ⟨D, L, F⟩, ⟨w, e, x, md, wt⟩, ⟨P, G⟩, ⟨hd, of, cu⟩, ⟨en, sl⟩, tl⟩ := s
  exact h.2.2.2.2.2.2.1
theorem aRun_r {a K : Int} : ∀ (r : Nat) (s : aS), iS a K s → iS a K (aRun a r s).1 ∧ 0 ≤ (aRun a r s).2 ∧ (aRun a r s).2 ≤ r
  | 0, s, h => ⟨h, by show (0 : Int) ≤ 0; omega, by show (0 : Int) ≤ 0; omega⟩
  | r + 1, s, h => by
    rcases iS_of h with c | c
    · rw [aRun_on c]
      have h1 := aRun_r r _ (tck_ok h)
      have h2 := (tck_bits h).1
      refine ⟨h1.1, ?_, ?_⟩
      · show 0 ≤ (tck a s).2.2 + (aRun a r (tck a s).1).2
        omega
      · show (tck a s).2.2 + (aRun a r (tck a s).1).2 ≤ ((r + 1 : Nat) : Int)
        omega
    · rw [aRun_off c]; exact ⟨h, by show (0 : Int) ≤ 0; omega, by show (0 : Int) ≤ _; omega⟩
theorem beg_y {a : Int} {n : Nat} {B : (Nat → Nat → Int) × (Nat → Int) × (Nat → Int)} {w : Int} {e x : Nat} {md wt hd of cu : Int} {PG : (Nat → Int) × (Nat → Int)} {r : (Int × (Nat → Int)) × Int} (h : w = 0 ∧ hd = 0 ∧ 1 ≤ n) : beg a (n, B, (w, e, x, md, wt), PG, (hd, of, cu), r) = bgn a 0 (n, B, (w, e, x, md, wt), PG, (hd, of, cu), r) := if_pos h
theorem beg_n {a : Int} {n : Nat} {B : (Nat → Nat → Int) × (Nat → Int) × (Nat → Int)} {w : Int} {e x : Nat} {md wt hd of cu : Int} {PG : (Nat → Int) × (Nat → Int)} {r : (Int × (Nat → Int)) × Int} (h : ¬ (w = 0 ∧ hd = 0 ∧ 1 ≤ n)) : beg a (n, B, (w, e, x, md, wt), PG, (hd, of, cu), r) = (n, B, (w, e, x, md, wt), PG, (hd, of, cu), r) := if_neg h
theorem beg_beg (a : Int) (s : aS) : beg a (beg a s) = beg a s := by
  obtain ⟨n, ⟨D, L, F⟩, ⟨w, e, x, md, wt⟩, ⟨P, G⟩, ⟨hd, of, cu⟩, ⟨en, sl⟩, tl⟩ := s
  by_cases c : w = 0 ∧ hd = 0 ∧ 1 ≤ n
  · rw [beg_y c]
    exact beg_n (fun q => absurd q.1 (by decide))
  · rw [beg_n c, beg_n c]
theorem beg_of (a : Int) (s : aS) : aOf (beg a s) = aOf s := by
  obtain ⟨n, ⟨D, L, F⟩, ⟨w, e, x, md, wt⟩, ⟨P, G⟩, ⟨hd, of, cu⟩, ⟨en, sl⟩, tl⟩ := s
  simp only [beg]
  by_cases c : w = 0 ∧ hd = 0 ∧ 1 ≤ n
  · rw [if_pos c]; rfl
  · rw [if_neg c]
theorem aRun_beg {a : Int} {r : Nat} {s : aS} (h : aOf s = 0) : aRun a (r + 1) s = aRun a (r + 1) (beg a s) := by
  rw [aRun_on h, aRun_on (by rw [beg_of]; exact h)]
  unfold tck
  rw [beg_beg]
def skp (k : Int) : aS → aS
  | (n, B, (w, e, x, md, wt), r) => (n, B, (w, e, x, md, wt - k), r)
theorem aRun_skp {a : Int} {r : Nat} : ∀ (k : Nat) {n : Nat} {B : (Nat → Nat → Int) × (Nat → Int) × (Nat → Int)} {e x : Nat} {md wt : Int} {q : ((Nat → Int) × (Nat → Int)) × (Int × Int × Int) × (Int × (Nat → Int)) × Int}, aOf (n, B, (1, e, x, md, wt), q) = 0 → (k : Int) + 1 ≤ wt → aRun a (r + k) (n, B, (1, e, x, md, wt), q) = aRun a r (n, B, (1, e, x, md, wt - k), q)
  | 0, n, B, e, x, md, wt, q, _, _ => by
    rw [show wt - ((0 : Nat) : Int) = wt by omega]; rfl
  | k + 1, n, B, e, x, md, wt, q, h, hk => by
    have ht : tck a (n, B, (1, e, x, md, wt), q) = ((n, B, (1, e, x, md, wt - 1), q), 0, 0) := by
      obtain ⟨D, L, F⟩ := B
      obtain ⟨⟨P, G⟩, ⟨hd, of, cu⟩, ⟨en, sl⟩, tl⟩ := q
      unfold tck
      simp only [beg]
      rw [if_neg (fun q => absurd q.1 (by decide))]
      simp only [tck1]
      rw [if_neg (by decide), if_pos (by omega)]
    rw [← Nat.add_assoc, aRun_on h, ht]
    dsimp only
    have ih := aRun_skp (a := a) (r := r) k (n := n) (B := B) (e := e) (x := x) (md := md) (wt := wt - 1) (q := q) h (by omega)
    rw [ih, show wt - 1 - (k : Int) = wt - ((k + 1 : Nat) : Int) by omega, Int.zero_add]
theorem aRun_idle {a : Int} {s : aS} (h : tck a s = (s, 0, 0)) : ∀ r, aRun a r s = (s, 0)
  | 0 => rfl
  | r + 1 => by
    rw [aRun, h]
    dsimp only
    rw [aRun_idle h r]
    split <;> rfl
theorem c100 {M : zM} {a K : Int} {s : aS} {m : Int} {R : Option zV → zM → Prop} (hs : cS M a s) (hi : iS a K s) (hof : aOf s = 0) (hm : 0 ≤ m ∧ m ≤ 20000)
    (h : ∀ (M' : zM) (k : Nat) (s2 : aS), zfr p83 zno M M' → (k : Int) ≤ m → cS M' a s2 → iS a K s2 → aOf s2 = 0 → (∀ r : Nat, 1 ≤ r → aRun a (r + k) s = aRun a r s2) → R (some (zI k)) M') : zF 100 [zR 0 0, zI m] M R := by
  refine g100_0 (c72 hs hi (fun M1 f1 s1 => ⟨rfl, fun _ => ?_⟩))
  have hi1 := beg_ok hi
  have hb : ∀ r : Nat, 1 ≤ r → aRun a r s = aRun a r (beg a s) := fun r hr => by
    obtain ⟨q, rfl⟩ : ∃ q, r = q + 1 := ⟨r - 1, by omega⟩
    exact aRun_beg hof
  have hof1 : aOf (beg a s) = 0 := by rw [beg_of]; exact hof
  have hbb := beg_beg a s
  replace f1 : zfr p83 zno M M1 := f1.mono p71_83 (fun _ _ hp => hp)
  generalize beg a s = t at *
  obtain ⟨n, ⟨D, L, F⟩, ⟨w, e, x, md, wt⟩, ⟨P, G⟩, ⟨hd, of, cu⟩, ⟨en, sl⟩, tl⟩ := t
  have s1' := s1
  obtain ⟨r, ha, ⟨w4, wk0, wk1⟩, c1, c2, c3, c4, c5, c6, c7⟩ := s1'
  have hi1' := hi1
  obtain ⟨i1, i2, i3, ⟨i41, i42⟩, i5, i6, i7, i8, i9, i10, i11⟩ := hi1'
  rw [w4]
  refine ⟨by omega, fun c => ⟨rfl, ?_⟩, fun c => ?_⟩
  · have ht : tck a (n, (D, L, F), (w, e, x, md, wt), (P, G), (hd, of, cu), (en, sl), tl) = ((n, (D, L, F), (w, e, x, md, wt), (P, G), (hd, of, cu), (en, sl), tl), 0, 0) := by
      unfold tck
      rw [hbb]
      simp only [tck1]
      rw [if_pos c]
    have h1 := h M1 m.toNat _ f1 (by omega) s1 hi1 hof1 (fun r hr => by rw [hb _ (by omega), aRun_idle ht, aRun_idle ht])
    rw [show ((m.toNat : Nat) : Int) = m by omega] at h1
    exact h1
  · have hw1 : w = 1 := by omega
    subst hw1
    obtain ⟨g1, g2, g3, g4, g5⟩ := wk1 rfl
    obtain ⟨j1, j2, j3, j4, j5, j6, j7, j8⟩ := i42 rfl
    refine c99 (by omega) (by rw [g5]; omega) ⟨_, rfl, fun _ => ⟨rfl, ?_⟩⟩
    rw [g5]
    have m1 := imin_r m (wt - 1)
    have m2 := imax_r 0 (imin m (wt - 1))
    obtain ⟨k, hk⟩ : ∃ k : Nat, (k : Int) = imax 0 (imin m (wt - 1)) := ⟨(imax 0 (imin m (wt - 1))).toNat, by omega⟩
    rw [← hk]
    refine h _ k (n, (D, L, F), (1, e, x, md, wt - k), (P, G), (hd, of, cu), (en, sl), tl) (f1.w 8 0 6 _ (by simp [p83])) (by omega) ⟨cRow_eq rfl rfl (fun b s => rfl) (fun b => rfl) (fun b => rfl) r, ha, ⟨w4, fun q => by omega, fun _ => ⟨g1, g2, cEnt_eq rfl (fun i _ _ => rfl) g3, g4, rfl⟩⟩, cRs_eq (fun s => rfl) (fun s => rfl) (fun s => rfl) rfl (fun s => rfl) rfl ⟨c1, c2, c3, c4, c5, c6, c7⟩⟩ ⟨i1, i2, i3, ⟨Or.inr rfl, fun _ => ⟨j1, j2, j3, j4, j5, j6, by omega, by omega⟩⟩, i5, i6, i7, i8, i9, i10, i11⟩ hof1 (fun r hr => ?_)
    rw [hb _ (by omega), aRun_skp k hof1 (by omega)]
theorem cS_9 {M : zM} {a : Int} {s : aS} (h : cS M a s) : M.1 0 0 9 = 1 - aOf s := by
  obtain ⟨n, ⟨D, L, F⟩, ⟨w, e, x, md, wt⟩, ⟨P, G⟩, ⟨hd, of, cu⟩, ⟨en, sl⟩, tl⟩ := s
  exact h.2.2.2.2.2.1
theorem mS_26 {M : zM} {a : Int} {s : aS} (h : mS M a s) : M.1 18 0 26 = aOf s := by
  obtain ⟨n, ⟨D, L, F⟩, ⟨w, e, x, md, wt⟩, ⟨P, G⟩, ⟨hd, of, cu⟩, ⟨en, sl⟩, tl⟩ := s
  exact h.2.2.2.2.2.1
theorem c101_l {a K : Int} {N : Nat} (hN : N ≤ 20000) {Q : zQ} : ∀ (f r : Nat) (M : zM) (s : aS) (x2 : Int) (cl : Bool), r ≤ f → r ≤ N → cS M a s → iS a K s → (∀ (M' : zM) (cl : Bool), zfr p83 zno M M' → cS M' a (aRun a r s).1 → Q (.inl (some (zI (x2 + (aRun a r s).2)))) M' cl 0) → zT 101 (30, [some (zR 0 0), some (zI N), some (zI x2), some (zI ((N : Int) - r))], [], M, cl) Q := by
  intro f
  have base : ∀ (r : Nat) (M : zM) (s : aS) (x2 : Int) (cl : Bool), r = 0 → cS M a s → (∀ (M' : zM) (cl : Bool), zfr p83 zno M M' → cS M' a (aRun a r s).1 → Q (.inl (some (zI (x2 + (aRun a r s).2)))) M' cl 0) → zT 101 (30, [some (zR 0 0), some (zI N), some (zI x2), some (zI ((N : Int) - r))], [], M, cl) Q := by
    intro r M s x2 cl hr hs h
    subst hr
    refine g101_30 ⟨by omega, fun _ => ?_, fun c => by omega⟩
    have h1 := h M cl (zfr.refl _ _ _) hs
    rw [show x2 + (aRun a 0 s).2 = x2 by show x2 + 0 = x2; omega] at h1
    exact h1
  induction f with
  | zero => intro r M s x2 cl hf hr hs hi h; exact base r M s x2 cl (by omega) hs h
  | succ f ih =>
    intro r M s x2 cl hf hr hs hi h
    by_cases e0 : r = 0
    · exact base r M s x2 cl e0 hs h
    · have e9 := cS_9 hs
      refine g101_30 ?_
      rw [e9]
      refine ⟨by omega, fun c => by omega, fun _ => ?_⟩
      rcases iS_of hi with c | c
      · rw [c]
        refine ⟨by omega, fun q => by omega, fun _ => c100 hs hi c (by omega) (fun M2 k s2 f2 hk cs2 is2 d hrun => ⟨_, rfl, fun _ => c83 cs2 is2 (fun M3 f3 cs3 => ⟨_, rfl, fun _ => ?_⟩)⟩)⟩
        have hb := tck_bits is2
        have ek : r = (r - k - 1 + 1) + k := by omega
        have hrr := hrun (r - k - 1 + 1) (by omega)
        rw [← ek] at hrr
        rw [aRun_on d] at hrr
        rw [hrr] at h
        have ex : (N : Int) - r + k + 1 = (N : Int) - ((r - k - 1 : Nat) : Int) := by omega
        rw [ex]
        refine ⟨by omega, fun q => ?_, fun q => ?_⟩
        · have h0 := hb.2.2.1 q
          refine ih (r - k - 1) M3 _ x2 _ (by omega) (by omega) cs3 (tck_ok is2) (fun M4 cl4 f4 cs4 => ?_)
          have h1 := h M4 cl4 ((f2.trans f3).trans f4) cs4
          dsimp only at h1
          rw [h0, Int.zero_add] at h1
          exact h1
        · have h0 : (tck a s2).2.2 = 1 := by
            rcases hb.1 with z | z
            · exact absurd (hb.2.2.2 z) q
            · exact z
          refine ih (r - k - 1) M3 _ (x2 + 1) _ (by omega) (by omega) cs3 (tck_ok is2) (fun M4 cl4 f4 cs4 => ?_)
          have h1 := h M4 cl4 ((f2.trans f3).trans f4) cs4
          dsimp only at h1
          rw [h0, ← Int.add_assoc] at h1
          exact h1
      · rw [aRun_off c] at h
        rw [c]
        refine ⟨by omega, fun _ => ?_, fun q => absurd (by omega) q⟩
        have h1 := h M cl (zfr.refl _ _ _) hs
        dsimp only at h1
        rw [Int.add_zero] at h1
        exact h1
theorem c101 {M : zM} {a K : Int} {s : aS} {N : Int} {R : Option zV → zM → Bool → Prop} {T : Nat → zM → Prop} (hN : zr N) (hs : cS M a s) (hi : iS a K s) (h10 : M.1 0 0 10 = 0 ∨ M.1 0 0 10 = 1)
    (h1 : N < 1 ∨ 20000 < N → T 1 M) (h2 : 1 ≤ N → N ≤ 20000 → aOf s = 1 ∨ M.1 0 0 10 = 1 → T 0 M)
    (h : 1 ≤ N → N ≤ 20000 → aOf s = 0 → M.1 0 0 10 = 0 → ∀ (M' : zM) (c : Bool), zfr p83 zno M M' → cS M' a (aRun a N.toNat s).1 → R (some (zI (aRun a N.toNat s).2)) M' c) : zX 101 [zR 0 0, zI N] M R T := by
  have e9 := cS_9 hs
  have ho := iS_of hi
  refine g101_0 ⟨by omega, fun c => ⟨rfl, rfl, h1 (by omega)⟩, fun c => ⟨by omega, fun c2 => c7 (by omega) h10 (fun q1 q2 => ⟨rfl, rfl, ?_⟩) (fun q => ⟨rfl, rfl, h2 (by omega) c2 (by omega)⟩), fun c2 => ⟨rfl, rfl, h1 (by omega)⟩⟩⟩
  have key := c101_l (a := a) (K := K) (N := N.toNat) (by omega) (Q := fun o M' c e => match o with
    | .inl v => e = 0 ∧ R v M' c
    | .inr x => c = true ∧ e = 1 ∧ T x M') N.toNat N.toNat M s 0 true (Nat.le_refl _) (Nat.le_refl _) hs hi (fun M' cl f' cs' => ⟨rfl, by
      have h3 := h (by omega) c2 (by omega) q2 M' cl f' cs'
      rw [Int.zero_add]; exact h3⟩)
  rw [show ((N.toNat : Nat) : Int) = N by omega, Int.sub_self] at key
  exact key
theorem c103_l {a K : Int} {N : Nat} (hN : N ≤ 20000) {Q : zQ} : ∀ (r : Nat) (M : zM) (s : aS) (x2 : Int) (cl : Bool), r ≤ N → mS M a s → iS a K s → (∀ (M' : zM) (cl : Bool), zfr p97 l97 M M' → mS M' a (aRun a r s).1 → Q (.inl (some (zI (x2 + (aRun a r s).2)))) M' cl 0) → zT 103 (37, [some (zR 18 0), some (zI N), some (zI x2), some (zI ((N : Int) - r))], [], M, cl) Q := by
  intro r
  induction r with
  | zero =>
    intro M s x2 cl hr hs hi h
    refine g103_37 ⟨by omega, fun _ => ?_, fun c => by omega⟩
    have h1 := h M cl (zfr.refl _ _ _) hs
    rw [show x2 + (aRun a 0 s).2 = x2 by show x2 + 0 = x2; omega] at h1
    exact h1
  | succ r ih =>
    intro M s x2 cl hr hs hi h
    have e9 := mS_26 hs
    refine g103_37 ?_
    rw [e9]
    refine ⟨by omega, fun c => by omega, fun _ => ?_⟩
    rcases iS_of hi with c | c
    · rw [aRun_on c] at h
      rw [c]
      refine ⟨by omega, fun q => absurd rfl q, fun _ => c97 hs hi (fun M2 f2 s2 t2 => ⟨_, rfl, fun _ => ?_⟩)⟩
      have hb := tck_bits hi
      rw [t2, show (N : Int) - ((r + 1 : Nat) : Int) + 1 = (N : Int) - (r : Int) by omega]
      refine ⟨by omega, fun q => ?_, fun q => ?_⟩
      · refine ih M2 _ _ _ (by omega) s2 (tck_ok hi) (fun M4 cl4 f4 s4 => ?_)
        have h1 := h M4 cl4 (f2.trans f4) s4
        dsimp only at h1
        rw [q, Int.zero_add] at h1
        rw [Int.add_zero]; exact h1
      · have h0 : (tck a s).2.2 = 1 := by omega
        refine ih M2 _ _ _ (by omega) s2 (tck_ok hi) (fun M4 cl4 f4 s4 => ?_)
        have h1 := h M4 cl4 (f2.trans f4) s4
        dsimp only at h1
        rw [h0, ← Int.add_assoc] at h1
        exact h1
    · rw [aRun_off c] at h
      rw [c]
      refine ⟨by omega, fun _ => ?_, fun q => absurd q (by decide)⟩
      have h1 := h M cl (zfr.refl _ _ _) hs
      dsimp only at h1
      rw [Int.add_zero] at h1
      exact h1
abbrev pCd : Nat → Nat → Prop := fun k s => k = 18 ∧ s = 1
abbrev p103 : Nat → Nat → Prop := fun k s => p97 k s ∨ (k = 18 ∧ s = 1)
theorem mS_code {M : zM} {a v : Int} {s : aS} (h : mS M a s) : mS (z_w M 18 0 1 v) a s := by
  obtain ⟨n, ⟨D, L, F⟩, ⟨w, e, x, md, wt⟩, ⟨P, G⟩, ⟨hd, of, cu⟩, ⟨en, sl⟩, tl⟩ := s
  exact ⟨mRow_eq rfl (fun s => rfl) (fun s => rfl) (fun s => rfl) h.1, h.2.1, h.2.2.1, mRs_eq rfl rfl rfl rfl rfl (fun s => rfl) (fun s => rfl) (fun s => rfl) h.2.2.2⟩
theorem c103 {M : zM} {a K : Int} {s : aS} {N : Int} {R : Option zV → zM → Prop} (hN : zr N) (hs : mS M a s) (hi : iS a K s) (h27 : M.1 18 0 27 = 0 ∨ M.1 18 0 27 = 1)
    (h1 : N < 1 ∨ 20000 < N → R (some (zI 0)) (z_w M 18 0 1 1)) (h2 : 1 ≤ N → N ≤ 20000 → aOf s = 1 ∨ M.1 18 0 27 = 1 → R (some (zI 0)) (z_w (z_w M 18 0 1 1) 18 0 1 2))
    (h : 1 ≤ N → N ≤ 20000 → aOf s = 0 → M.1 18 0 27 = 0 → ∀ (M' : zM), zfr p97 l97 (z_w M 18 0 1 0) M' → mS M' a (aRun a N.toNat s).1 → R (some (zI (aRun a N.toNat s).2)) M') : zF 103 [zR 18 0, zI N] M R := by
  have e9 := mS_26 hs
  have ho := iS_of hi
  refine g103_0 ⟨by omega, fun c => ⟨rfl, h1 (by omega)⟩, fun c => ⟨by omega, fun c2 => c50 (by omega) h27 (fun q1 q2 => ⟨_, rfl, fun cl => ⟨by omega, fun _ => ?_, fun q => absurd q (by decide)⟩⟩) (fun q => ⟨_, rfl, fun cl => ⟨by omega, fun q => absurd rfl q, fun _ => ⟨rfl, h2 (by omega) c2 (by omega)⟩⟩⟩), fun c2 => ⟨rfl, h1 (by omega)⟩⟩⟩
  have key := c103_l (a := a) (K := K) (N := N.toNat) (by omega) (Q := zq R) N.toNat (z_w M 18 0 1 0) s 0 cl (Nat.le_refl _) (mS_code hs) hi (fun M' cl f' s' => ⟨rfl, by
      have h3 := h (by omega) c2 (by omega) q2 M' f' s'
      rw [Int.zero_add]; exact h3⟩)
  rw [show ((N.toNat : Nat) : Int) = N by omega, Int.sub_self] at key
  exact key
