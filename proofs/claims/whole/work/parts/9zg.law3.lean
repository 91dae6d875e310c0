-- The law's cases: place, commanded, left, plan, busy, slot. (own work)
def aP (s : aS) : Nat → Int := s.2.2.2.1.1
theorem cS_14 {M : zM} {a : Int} {s : aS} (h : cS M a s) : ∀ q, q < 3 → M.1 14 0 q = aP s q := by
  obtain ⟨n, ⟨D, L, F⟩, ⟨w, e, x, md, wt⟩, ⟨P, G⟩, ⟨hd, of, cu⟩, ⟨en, sl⟩, tl⟩ := s
  exact fun q hq => (h.2.2.2.1 q hq).1
theorem mS_23 {M : zM} {a : Int} {s : aS} (h : mS M a s) : ∀ q, q < 3 → M.1 23 0 q = aP s q := by
  obtain ⟨n, ⟨D, L, F⟩, ⟨w, e, x, md, wt⟩, ⟨P, G⟩, ⟨hd, of, cu⟩, ⟨en, sl⟩, tl⟩ := s
  exact fun q hq => (h.2.2.2.1 q hq).1
theorem iS_aP {a K : Int} {s : aS} (h : iS a K s) : ∀ q, q < 3 → -99999 ≤ aP s q ∧ aP s q ≤ 99999 := by
  obtain ⟨n, B, W, ⟨P, G⟩, r⟩ := s
  exact iS_P h
theorem lw363 {M : zM} {K x4 : Int} {u5 u6 : Option zV} {cl : Bool} {Q : zQ} (hI : iI M K) (hK : K + 1 ≤ 10000) (hx : lwX M x4) (nx : lwN M K x4 Q) : zT 145 (363, [some (zR 32 0), some (zR 0 0), some (zR 18 0), some (zR 31 0), some (zI x4), u5, u6], [], M, cl) Q := by
  have hI' := hI
  obtain ⟨a, s, q, T, i1, i2, i3, i4, i5, i6, i7, i8, i9, i10⟩ := hI'
  obtain ⟨⟨x1, x2, x3⟩, hz⟩ := hx
  have z1 := hz (x4 + 1).toNat
  generalize hN : M.1 32 0 (x4 + 1).toNat = N at *
  refine g145_363_32 ?_
  rw [hN]
  refine ⟨by omega, g106_0 (g105_0 (c104 z1 (fun c1 c2 => ⟨rfl, rfl, by omega, rfl, _, rfl, fun _ => ?_⟩) (fun c => ⟨rfl, rfl, 1, rfl, _, rfl, fun _ => ?_⟩)))⟩
  · have h1 := cS_14 i3 N.toNat (by omega)
    have h2 := mS_23 i4 N.toNat (by omega)
    have h3 := iS_aP i1 N.toNat (by omega)
    rw [h1]
    refine ⟨by omega, _, rfl, fun _ => ?_⟩
    rw [show (z_wl M 31 0 0 (aP s N.toNat)).1 32 0 (x4 + 1).toNat = N from hN]
    refine ⟨by show z_wi (x4 + 1) M.2.2; omega, g107_0 ⟨by omega, fun c => by omega, fun _ => ⟨by omega, fun _ => ⟨by omega, rfl, _, rfl, fun _ => c64 ⟨_, rfl, fun _ => ?_⟩⟩, fun c => by omega⟩⟩⟩
    have eo : (z_w (z_wl M 31 0 0 (aP s N.toNat)) 18 0 1 0).2.1 31 0 0 = aP s N.toNat := rfl
    rw [show (z_wl M 31 0 0 (aP s N.toNat)).1 23 0 N.toNat = aP s N.toNat from h2, eo]
    exact tlA rfl (by decide) (fun _ => ⟨by omega, rfl⟩) (nx _ 0 _ _ _ (iI_code (iI_wl hI) hK) ((sSc_wl _ _).trans (sSc_code _ _)) (by omega))
  · rw [hN]
    refine ⟨by omega, g107_0 ⟨by omega, fun c1 => ⟨rfl, _, rfl, fun _ => c64 ⟨_, rfl, fun _ => tlA rfl (by decide) (fun q => absurd q (by decide)) (nx _ 1 _ _ _ (iI_code hI hK) (sSc_code _ _) (by omega))⟩⟩, fun c1 => ⟨by omega, fun c2 => by omega, fun c2 => ⟨rfl, _, rfl, fun _ => c64 ⟨_, rfl, fun _ => tlA rfl (by decide) (fun q => absurd q (by decide)) (nx _ 1 _ _ _ (iI_code hI hK) (sSc_code _ _) (by omega))⟩⟩⟩⟩⟩
theorem lw419 {M : zM} {K x4 : Int} {u5 u6 : Option zV} {cl : Bool} {Q : zQ} (hI : iI M K) (hK : K + 1 ≤ 10000) (hx : lwX M x4) (nx : lwN M K x4 Q) : zT 145 (419, [some (zR 32 0), some (zR 0 0), some (zR 18 0), some (zR 31 0), some (zI x4), u5, u6], [], M, cl) Q := by
  have hI' := hI
  obtain ⟨a, s, q, T, i1, i2, i3, i4, i5, i6, i7, i8, i9, i10⟩ := hI'
  obtain ⟨⟨x1, x2, x3⟩, hz⟩ := hx
  have z1 := hz (x4 + 1).toNat
  generalize hN : M.1 32 0 (x4 + 1).toNat = N at *
  refine g145_419_32 ?_
  rw [hN]
  refine ⟨by omega, g109_0 (g108_0 (c104 z1 (fun c1 c2 => ⟨rfl, rfl, by omega, rfl, _, rfl, fun _ => ?_⟩) (fun c => ⟨rfl, rfl, 1, rfl, _, rfl, fun _ => ?_⟩)))⟩
  · have h1 := cS_15 i3 N.toNat (by omega)
    have h2 := mS_24 i4 N.toNat (by omega)
    have h3 := iS_G i1 N.toNat (by omega)
    rw [h1]
    refine ⟨by omega, _, rfl, fun _ => ?_⟩
    rw [show (z_wl M 31 0 0 (aG s N.toNat)).1 32 0 (x4 + 1).toNat = N from hN]
    refine ⟨by show z_wi (x4 + 1) M.2.2; omega, g110_0 ⟨by omega, fun c => by omega, fun _ => ⟨by omega, fun _ => ⟨by omega, rfl, _, rfl, fun _ => c64 ⟨_, rfl, fun _ => ?_⟩⟩, fun c => by omega⟩⟩⟩
    have eo : (z_w (z_wl M 31 0 0 (aG s N.toNat)) 18 0 1 0).2.1 31 0 0 = aG s N.toNat := rfl
    rw [show (z_wl M 31 0 0 (aG s N.toNat)).1 24 0 N.toNat = aG s N.toNat from h2, eo]
    exact tlA rfl (by decide) (fun _ => ⟨by omega, rfl⟩) (nx _ 0 _ _ _ (iI_code (iI_wl hI) hK) ((sSc_wl _ _).trans (sSc_code _ _)) (by omega))
  · rw [hN]
    refine ⟨by omega, g110_0 ⟨by omega, fun c1 => ⟨rfl, _, rfl, fun _ => c64 ⟨_, rfl, fun _ => tlA rfl (by decide) (fun q => absurd q (by decide)) (nx _ 1 _ _ _ (iI_code hI hK) (sSc_code _ _) (by omega))⟩⟩, fun c1 => ⟨by omega, fun c2 => by omega, fun c2 => ⟨rfl, _, rfl, fun _ => c64 ⟨_, rfl, fun _ => tlA rfl (by decide) (fun q => absurd q (by decide)) (nx _ 1 _ _ _ (iI_code hI hK) (sSc_code _ _) (by omega))⟩⟩⟩⟩⟩
theorem lw475 {M : zM} {K x4 : Int} {u5 u6 : Option zV} {cl : Bool} {Q : zQ} (hI : iI M K) (hK : K + 1 ≤ 10000) (nx : lwN M K x4 Q) : zT 145 (475, [some (zR 32 0), some (zR 0 0), some (zR 18 0), some (zR 31 0), some (zI x4), u5, u6], [], M, cl) Q := by
  have hI' := hI
  obtain ⟨a, s, q, T, i1, i2, i3, i4, i5, i6, i7, i8, i9, i10⟩ := hI'
  have h1 := cS_n i3
  have h2 := mS_n i4
  have h3 := iS_n i1
  exact g145_475_32 (c111 ⟨_, rfl, fun _ => c112 ⟨_, rfl, fun _ => tlB (by rw [h1, h2]) (by rw [h1]; omega) (lwN0 nx _ _ _ _ (iI_code hI hK) (sSc_code _ _))⟩⟩)
def aW (s : aS) : Int := s.2.2.1.1
theorem cS_w {M : zM} {a : Int} {s : aS} (h : cS M a s) : M.1 8 0 4 = aW s := by
  obtain ⟨n, ⟨D, L, F⟩, ⟨w, e, x, md, wt⟩, ⟨P, G⟩, ⟨hd, of, cu⟩, ⟨en, sl⟩, tl⟩ := s
  exact h.2.2.1.1
theorem mS_w {M : zM} {a : Int} {s : aS} (h : mS M a s) : M.1 18 0 19 = aW s := by
  obtain ⟨n, ⟨D, L, F⟩, ⟨w, e, x, md, wt⟩, ⟨P, G⟩, ⟨hd, of, cu⟩, ⟨en, sl⟩, tl⟩ := s
  exact h.2.2.1.1
theorem iS_w {a K : Int} {s : aS} (h : iS a K s) : aW s = 0 ∨ aW s = 1 := by
  obtain ⟨n, ⟨D, L, F⟩, ⟨w, e, x, md, wt⟩, ⟨P, G⟩, ⟨hd, of, cu⟩, ⟨en, sl⟩, tl⟩ := s
  exact h.2.2.2.1.1
theorem lw556 {M : zM} {K x4 : Int} {u5 u6 : Option zV} {cl : Bool} {Q : zQ} (hI : iI M K) (hK : K + 1 ≤ 10000) (nx : lwN M K x4 Q) : zT 145 (556, [some (zR 32 0), some (zR 0 0), some (zR 18 0), some (zR 31 0), some (zI x4), u5, u6], [], M, cl) Q := by
  have hI' := hI
  obtain ⟨a, s, q, T, i1, i2, i3, i4, i5, i6, i7, i8, i9, i10⟩ := hI'
  have h1 := cS_w i3
  have h2 := mS_w i4
  have h3 := iS_w i1
  exact g145_556_32 (c117 (by omega) ⟨_, rfl, fun _ => c118 (by omega) ⟨_, rfl, fun _ => tlB (by rw [h1, h2]) (by rw [h1]; omega) (lwN0 nx _ _ _ _ (iI_code hI hK) (sSc_code _ _))⟩⟩)
-- the plan's entries
def aE (a : Int) (s : aS) (i : Nat) : Nat := if s.2.2.1.1 = 1 then (if i = 0 then s.2.2.1.2.1 else pE (qC s.2.1.1 s.2.1.2.2) (qD a s.2.1.2.1) s.1 1 s.2.2.1.2.2.1 i) else pE (qC s.2.1.1 s.2.1.2.2) (qD a s.2.1.2.1) s.1 0 0 i
theorem pE_b {n : Nat} {D : Nat → Nat → Int} {L F : Nat → Int} {d : Nat → Nat} {st g i : Nat} (hB : okB n D L F) (hi : st ≤ i) (hg : g ≤ 1000000) : pE (qC D F) d n st g i ≤ 1000000 := by
  by_cases e : i = st
  · subst e; rw [pE_st]; exact hg
  · by_cases e2 : i < n
    · have h1 := pE_c (c := qC D F) (d := d) (g := g) (show st < i by omega) e2
      have h2 := (qC_e (hB (i - 1) (by omega)) (hB i e2)).2
      omega
    · rw [pE_end (by omega) (by omega)]; omega
theorem aE_r {a K : Int} {s : aS} (h : iS a K s) (i : Nat) : aE a s i ≤ 1000000 := by
  obtain ⟨n, ⟨D, L, F⟩, ⟨w, e, x, md, wt⟩, ⟨P, G⟩, ⟨hd, of, cu⟩, ⟨en, sl⟩, tl⟩ := s
  obtain ⟨i1, i2, i3, ⟨i41, i42⟩, i5⟩ := h
  unfold aE
  dsimp only
  by_cases c : w = 1
  · have h42 := i42 c
    rw [if_pos c]
    by_cases c2 : i = 0
    · rw [if_pos c2]; exact h42.2.1
    · rw [if_neg c2]; exact pE_b i3 (by omega) h42.2.2.1
  · rw [if_neg c]; exact pE_b i3 (by omega) (by omega)
theorem cS_E {M : zM} {a K : Int} {s : aS} (h : cS M a s) (hi : iS a K s) {i : Nat} (hn : i < s.1) : M.1 10 (bN M i) 3 = (aE a s i : Int) := by
  obtain ⟨n, ⟨D, L, F⟩, ⟨w, e, x, md, wt⟩, ⟨P, G⟩, ⟨hd, of, cu⟩, ⟨en, sl⟩, tl⟩ := s
  obtain ⟨i1, i2, i3, ⟨i41, i42⟩, i5⟩ := hi
  obtain ⟨r, ha, ⟨w4, wk0, wk1⟩, c1⟩ := h
  unfold aE
  dsimp only at hn ⊢
  by_cases c : w = 1
  · obtain ⟨g1, g2, g3, g4, g5⟩ := wk1 c
    rw [if_pos c]
    by_cases c2 : i = 0
    · rw [if_pos c2, c2]; exact g1
    · rw [if_neg c2]; exact g3 i (by omega) hn
  · rw [if_neg c]; exact wk0 (by omega) i (by omega) hn
theorem c115 {M : zM} {a K : Int} {s : aS} {i : Nat} {R : Option zV → zM → Prop} (h : mS M a s) (hi : iS a K s) (hi8 : i ≤ 8) (hp : s.1 ≤ i → aW s = 1 → ¬ i = 1) (hp0 : i = 0 → 1 ≤ s.1) (hR : R (some (zJ (aE a s i))) M) : zF 115 [zR 18 0, zI i] M R := by
  obtain ⟨n, ⟨D, L, F⟩, ⟨w, e, x, md, wt⟩, ⟨P, G⟩, ⟨hd, of, cu⟩, ⟨en, sl⟩, tl⟩ := s
  have hp' : n ≤ i → w = 1 → ¬ i = 1 := hp
  obtain ⟨i1, i2, i3, ⟨i41, i42⟩, i5⟩ := hi
  obtain ⟨r, ha, ⟨w4, wk1⟩, c1⟩ := h
  unfold aE at hR
  dsimp only at hR hp0
  refine g115_0 ?_
  rw [w4]
  refine ⟨by omega, fun c => ?_, fun c => ⟨by omega, fun c2 => ?_, fun c2 => ⟨rfl, ?_⟩⟩⟩
  · rw [if_neg (by omega)] at hR
    exact c90p (st := 0) (g := 0) r i3 ha i1 (by omega) (by omega) (by omega) (fun _ _ => rfl) ⟨_, rfl, fun _ => ⟨rfl, hR⟩⟩
  · have c1 : w = 1 := by omega
    rw [if_pos c1, if_neg (by omega)] at hR
    obtain ⟨g1, g2, g3, g4, g5⟩ := wk1 c1
    have h42 := i42 c1
    rw [g2]
    exact c90p (st := 1) (g := x) r i3 ha i1 (by omega) (by omega) (by omega) (fun q1 q2 => absurd q2.symm (hp' q1 c1)) ⟨_, rfl, fun _ => ⟨rfl, hR⟩⟩
  · have c1 : w = 1 := by omega
    rw [if_pos c1, if_pos (by omega)] at hR
    obtain ⟨g1, g2, g3, g4, g5⟩ := wk1 c1
    rw [g1]; exact hR
-- what a plan tells
def aPl (a : Int) (s : aS) (i : Nat) (k : Int) : Int := if k = 0 then (aE a s i : Int) else if k = 1 then (if s.2.2.1.1 = 1 ∧ i = 0 then (s.2.2.1.2.2.1 : Int) else (aE a s (i + 1) : Int)) else if k = 2 then s.2.1.2.1 i else s.2.1.2.2 i * s.2.1.2.2 i
theorem aPl_r {a K : Int} {s : aS} {i : Nat} {k : Int} (h : iS a K s) (hn : i < s.1) : 0 ≤ aPl a s i k ∧ aPl a s i k ≤ 1000000 := by
  have h1 := aE_r h i
  have h2 := aE_r h (i + 1)
  obtain ⟨n, ⟨D, L, F⟩, ⟨w, e, x, md, wt⟩, ⟨P, G⟩, ⟨hd, of, cu⟩, ⟨en, sl⟩, tl⟩ := s
  obtain ⟨i1, i2, i3, ⟨i41, i42⟩, i5⟩ := h
  have hb := i3 i hn
  have hl := okB_L hb
  have hq := sq_b hb.1
  unfold aPl
  dsimp only
  split
  · omega
  · split
    · split
      · next c => have := i42 c.1; omega
      · omega
    · split <;> omega
theorem c113 {M : zM} {a K : Int} {s : aS} {i k : Int} {R : Option zV → zM → Bool → Prop} {T : Nat → zM → Prop} (h : cS M a s) (hi : iS a K s) (zi : zr i) (zk : zr k) (h1 : k < 0 ∨ 3 < k → T 1 M) (h2 : 0 ≤ k → k ≤ 3 → i < 0 ∨ (s.1 : Int) ≤ i → T 2 M)
    (hR : 0 ≤ k → k ≤ 3 → 0 ≤ i → i < (s.1 : Int) → ∀ c, R (some (zI (aPl a s i.toNat k))) M c) : zX 113 [zR 0 0, zI i, zI k] M R T := by
  have hn := cS_n h
  have h8 := iS_n hi
  have hw := cS_w h
  have hw1 := iS_w hi
  refine g113_0 ?_
  rw [hn]
  refine ⟨by omega, fun c => ⟨rfl, rfl, h1 (by omega)⟩, fun c => ⟨by omega, fun c2 => ⟨by omega, fun c3 => ⟨rfl, rfl, h2 (by omega) c2 (by omega)⟩, fun c3 => ⟨by omega, fun c4 => ?_, fun c4 => ⟨rfl, rfl, h2 (by omega) c2 (by omega)⟩⟩⟩, fun c2 => ⟨rfl, rfl, h1 (by omega)⟩⟩⟩
  obtain ⟨j, rfl⟩ : ∃ j : Nat, i = (j : Int) := ⟨i.toNat, by omega⟩
  have hR' := hR (by omega) c2 (by omega) c4
  rw [Int.toNat_natCast] at hR'
  have hE := cS_E h hi (show j < s.1 by omega)
  have hr : (0 ≤ M.1 8 0 2 ∧ M.1 8 0 2 ≤ 7) ∧ M.1 10 (bN M j) 1 = s.2.1.2.1 j ∧ M.1 10 (bN M j) 2 = s.2.1.2.2 j * s.2.1.2.2 j := by
    obtain ⟨n, ⟨D, L, F⟩, ⟨w, e, x, md, wt⟩, ⟨P, G⟩, ⟨hd, of, cu⟩, ⟨en, sl⟩, tl⟩ := s
    exact ⟨h.1.1, (h.1.2.2.2 j (by omega)).2⟩
  refine c31 hr.1 (by omega) ⟨_, rfl, fun cl => ?_⟩
  refine ⟨by omega, fun k0 => ⟨rfl, ?_⟩, fun k1 => c67 (i := j) (n := s.1) hr.1 hn h8 (by omega) (by omega) ⟨_, rfl, fun cl2 => ⟨rfl, ?_⟩⟩, fun k2 => ⟨rfl, ?_⟩, fun k0 k1 k2 => ⟨rfl, ?_⟩⟩
  · have h3 := hR' cl
    rw [aPl, if_pos k0, ← hE] at h3; exact h3
  · have h3 := hR' cl2
    rw [aPl, if_neg (by omega), if_pos k1] at h3
    rw [hw]
    have ev : (if aW s = 1 ∧ j = 0 then M.1 10 (bN M 0) 4 else if j + 1 < s.1 then M.1 10 (bN M (j + 1)) 3 else 0) = (if s.2.2.1.1 = 1 ∧ j = 0 then (s.2.2.1.2.2.1 : Int) else (aE a s (j + 1) : Int)) := by
      unfold aW
      by_cases q : s.2.2.1.1 = 1 ∧ j = 0
      · rw [if_pos q, if_pos q]
        obtain ⟨n, ⟨D, L, F⟩, ⟨w, e, x, md, wt⟩, ⟨P, G⟩, ⟨hd, of, cu⟩, ⟨en, sl⟩, tl⟩ := s
        exact (h.2.2.1.2.2 q.1).2.1
      · rw [if_neg q, if_neg q]
        by_cases q2 : j + 1 < s.1
        · rw [if_pos q2]; exact cS_E h hi q2
        · rw [if_neg q2]
          unfold aE
          by_cases q3 : s.2.2.1.1 = 1
          · have q4 : ¬ j = 0 := fun z => q ⟨q3, z⟩
            rw [if_pos q3, if_neg (by omega), pE_end (by omega) (by omega)]; rfl
          · rw [if_neg q3, pE_end (by omega) (by omega)]; rfl
    rw [ev]; exact h3
  · have h3 := hR' cl
    rw [aPl, if_neg (by omega), if_neg (by omega), if_pos k2, ← hr.2.1] at h3; exact h3
  · have h3 := hR' cl
    rw [aPl, if_neg k0, if_neg k1, if_neg k2, ← hr.2.2] at h3; exact h3
theorem c116 {M : zM} {a K : Int} {s : aS} {i k : Int} {R : Option zV → zM → Prop} (h : mS M a s) (hi : iS a K s) (zi : zr i) (zk : zr k) (h1 : k < 0 ∨ 3 < k → R (some (zI 0)) (z_w M 18 0 1 1)) (h2 : 0 ≤ k → k ≤ 3 → i < 0 ∨ (s.1 : Int) ≤ i → R (some (zI 0)) (z_w M 18 0 1 2))
    (hR : 0 ≤ k → k ≤ 3 → 0 ≤ i → i < (s.1 : Int) → R (some (zI (aPl a s i.toNat k))) (z_w M 18 0 1 0)) : zF 116 [zR 18 0, zI i, zI k] M R := by
  have hn := mS_n h
  have h8 := iS_n hi
  have hw := mS_w h
  have hw1 := iS_w hi
  have h0 : mS (z_w M 18 0 1 0) a s := mS_code h
  refine g116_0 ?_
  rw [hn, hw]
  refine ⟨by omega, fun c => ⟨rfl, h1 (by omega)⟩, fun c => ⟨by omega, fun c2 => ⟨by omega, fun c3 => ⟨rfl, h2 (by omega) c2 (by omega)⟩, fun c3 => ⟨by omega, fun c4 => ?_, fun c4 => ⟨rfl, h2 (by omega) c2 (by omega)⟩⟩⟩, fun c2 => ⟨rfl, h1 (by omega)⟩⟩⟩
  obtain ⟨j, rfl⟩ : ∃ j : Nat, i = (j : Int) := ⟨i.toNat, by omega⟩
  have hR' := hR (by omega) c2 (by omega) c4
  rw [Int.toNat_natCast] at hR' ⊢
  have hr : okM (z_w M 18 0 1 0) j ∧ mF (z_w M 18 0 1 0) j = s.2.1.2.2 j ∧ (s.2.1.2.2 j = 0 → M.1 28 0 j = s.2.1.2.1 j) ∧ mLn (z_w M 18 0 1 0) j = (if s.2.1.2.2 j = 0 then 0 else s.2.1.2.1 j) ∧ (0 ≤ s.2.1.2.2 j ∧ s.2.1.2.2 j ≤ 1000) := by
    obtain ⟨n, ⟨D, L, F⟩, ⟨w, e, x, md, wt⟩, ⟨P, G⟩, ⟨hd, of, cu⟩, ⟨en, sl⟩, tl⟩ := s
    have hj : j < n := by omega
    exact ⟨okM_of h0.1 hi.2.2.1 hj, (h0.1.2.2.2 j hj).1, (h0.1.2.2.2 j hj).2.1, mLn_of h0.1 hi.2.2.1 hj, (hi.2.2.1 j hj).1⟩
  have e27 : M.1 27 0 j = s.2.1.2.2 j := hr.2.1
  rw [e27]
  have ej1 : ((j : Int) + 1) = ((j + 1 : Nat) : Int) := by omega
  refine ⟨by omega, fun k0 => ⟨by omega, fun k1 => ⟨by omega, fun k2 => c87 (i := j) (by omega) (by rw [hr.2.1]; omega) ⟨_, rfl, fun _ => ⟨rfl, ?_⟩⟩, fun k2 => ⟨by omega, by omega, fun f0 => c89 (i := j) (by omega) hr.1 ⟨_, rfl, fun _ => ⟨rfl, ?_⟩⟩, fun f0 => ⟨by omega, rfl, ?_⟩⟩⟩, fun k1 => ⟨by omega, fun w0 => ?_, fun w0 => ⟨by omega, fun j0 => ?_, fun j0 => ⟨rfl, ?_⟩⟩⟩⟩, fun k0 => ?_⟩
  · rw [aPl, if_neg k0, if_neg k1, if_neg k2] at hR'
    rw [hr.2.1]; exact hR'
  · rw [aPl, if_neg k0, if_neg k1, if_pos k2] at hR'
    rw [hr.2.2.2.1, if_neg f0]; exact hR'
  · rw [aPl, if_neg k0, if_neg k1, if_pos k2] at hR'
    rw [hr.2.2.1 f0]; exact hR'
  · rw [aPl, if_neg k0, if_pos k1, if_neg (fun q => by have := q.1; unfold aW at w0; omega)] at hR'
    rw [ej1]
    exact c115 h0 hi (by omega) (fun q1 q2 => by omega) (fun q => by omega) ⟨_, rfl, fun _ => ⟨rfl, hR'⟩⟩
  · rw [aPl, if_neg k0, if_pos k1, if_neg (fun q => by omega)] at hR'
    rw [ej1]
    exact c115 h0 hi (by omega) (fun q1 q2 => by omega) (fun q => by omega) ⟨_, rfl, fun _ => ⟨rfl, hR'⟩⟩
  · rw [aPl, if_neg k0, if_pos k1, if_pos ⟨by unfold aW at hw1 w0; omega, by omega⟩] at hR'
    have ex : M.2.1 18 0 21 = (s.2.2.1.2.2.1 : Int) := by
      obtain ⟨n, ⟨D, L, F⟩, ⟨w, e, x, md, wt⟩, ⟨P, G⟩, ⟨hd, of, cu⟩, ⟨en, sl⟩, tl⟩ := s
      have w1 : w = 1 := by
        rcases hw1 with q | q
        · exact absurd q w0
        · exact q
      exact (h.2.2.1.2 w1).2.1
    rw [ex]; exact hR'
  · rw [aPl, if_pos k0] at hR'
    exact c115 h0 hi (by omega) (fun q1 q2 => by omega) (fun q => by omega) ⟨_, rfl, fun _ => ⟨rfl, hR'⟩⟩
theorem lw488 {M : zM} {K x4 : Int} {u5 u6 : Option zV} {cl : Bool} {Q : zQ} (hI : iI M K) (hK : K + 1 ≤ 10000) (hx : lwX M x4) (nx : lwN M K x4 Q) : zT 145 (488, [some (zR 32 0), some (zR 0 0), some (zR 18 0), some (zR 31 0), some (zI x4), u5, u6], [], M, cl) Q := by
  have hI' := hI
  obtain ⟨a, s, q, T, i1, i2, i3, i4, i5, i6, i7, i8, i9, i10⟩ := hI'
  obtain ⟨⟨x1, x2, x3⟩, hz⟩ := hx
  have z1 := hz (x4 + 1).toNat
  have z2 := hz (x4 + 2).toNat
  generalize hN : M.1 32 0 (x4 + 1).toNat = N at *
  generalize hN2 : M.1 32 0 (x4 + 2).toNat = N2 at *
  refine g145_488_32 ?_
  rw [hN, hN2]
  refine ⟨by omega, by omega, g114_0 (c113 i3 i1 z1 z2 (fun c => ⟨1, rfl, _, rfl, fun _ => ?_⟩) (fun c1 c2 c => ⟨2, rfl, _, rfl, fun _ => ?_⟩) (fun c1 c2 c3 c4 c => ⟨_, rfl, fun _ => ?_⟩))⟩
  · rw [hN, hN2]
    exact ⟨by omega, by omega, c116 i4 i1 z1 z2 (fun _ => ⟨_, rfl, fun _ => c64 ⟨_, rfl, fun _ => tlA rfl (by decide) (fun q => absurd q (by decide)) (nx _ 1 _ _ _ (iI_code hI hK) (sSc_code _ _) (by omega))⟩⟩) (fun _ _ => by omega) (fun _ _ => by omega)⟩
  · rw [hN, hN2]
    exact ⟨by omega, by omega, c116 i4 i1 z1 z2 (fun _ => by omega) (fun _ _ _ => ⟨_, rfl, fun _ => c64 ⟨_, rfl, fun _ => tlA rfl (by decide) (fun q => absurd q (by decide)) (nx _ 1 _ _ _ (iI_code hI hK) (sSc_code _ _) (by omega))⟩⟩) (fun _ _ _ _ => by omega)⟩
  · have hr := aPl_r (k := N2) i1 (show N.toNat < s.1 by omega)
    refine ⟨by omega, _, rfl, fun _ => ?_⟩
    rw [show (z_wl M 31 0 0 (aPl a s N.toNat N2)).1 32 0 (x4 + 1).toNat = N from hN, show (z_wl M 31 0 0 (aPl a s N.toNat N2)).1 32 0 (x4 + 2).toNat = N2 from hN2]
    refine ⟨by show z_wi (x4 + 1) M.2.2; omega, by show z_wi (x4 + 2) M.2.2; omega, c116 (mS_wl i4) i1 z1 z2 (fun _ => by omega) (fun _ _ _ => by omega) (fun _ _ _ _ => ⟨_, rfl, fun _ => c64 ⟨_, rfl, fun _ => ?_⟩⟩)⟩
    have eo : (z_w (z_wl M 31 0 0 (aPl a s N.toNat N2)) 18 0 1 0).2.1 31 0 0 = aPl a s N.toNat N2 := rfl
    rw [eo]
    exact tlA rfl (by decide) (fun _ => ⟨by omega, rfl⟩) (nx _ 0 _ _ _ (iI_code (iI_wl hI) hK) ((sSc_wl _ _).trans (sSc_code _ _)) (by omega))
-- the slots
def aSl (s : aS) : Nat → Int := s.2.2.2.2.2.1.2
theorem cS_sl {M : zM} {a : Int} {s : aS} (h : cS M a s) : ∀ k, k < 8 → M.1 13 0 k = aSl s k := by
  obtain ⟨n, ⟨D, L, F⟩, ⟨w, e, x, md, wt⟩, ⟨P, G⟩, ⟨hd, of, cu⟩, ⟨en, sl⟩, tl⟩ := s
  exact h.2.2.2.2.2.2.2.2.1
theorem mS_sl {M : zM} {a : Int} {s : aS} (h : mS M a s) : ∀ k, k < 8 → M.1 30 0 k = aSl s k := by
  obtain ⟨n, ⟨D, L, F⟩, ⟨w, e, x, md, wt⟩, ⟨P, G⟩, ⟨hd, of, cu⟩, ⟨en, sl⟩, tl⟩ := s
  exact h.2.2.2.2.2.2.2.2.1
theorem iS_sl {a K : Int} {s : aS} (h : iS a K s) : ∃ en, iSl en (aSl s) ∧ 0 ≤ en ∧ en ≤ 10000 := by
  obtain ⟨n, ⟨D, L, F⟩, ⟨w, e, x, md, wt⟩, ⟨P, G⟩, ⟨hd, of, cu⟩, ⟨en, sl⟩, tl⟩ := s
  obtain ⟨i1, i2, i3, i4, i5, i6, i7, i8, i9, i10, i11⟩ := h
  exact ⟨en, i10, by omega, by omega⟩
theorem iSl_r {en : Int} {sl : Nat → Int} (h : iSl en sl) (he : 0 ≤ en ∧ en ≤ 10000) : ∀ k, k < 8 → -99999 ≤ sl k ∧ sl k ≤ 99999 := by
  intro k hk
  obtain ⟨h1, h2, h3⟩ := h
  have a0 := h1 0 (by omega) 0 (by omega); have a1 := h1 0 (by omega) 1 (by omega); have a2 := h1 0 (by omega) 2 (by omega)
  have b0 := h1 1 (by omega) 0 (by omega); have b1 := h1 1 (by omega) 1 (by omega); have b2 := h1 1 (by omega) 2 (by omega)
  simp at a0 a1 a2 b0 b1 b2
  rcases (show k = 0 ∨ k = 1 ∨ k = 2 ∨ k = 3 ∨ k = 4 ∨ k = 5 ∨ k = 6 ∨ k = 7 by omega) with e | e | e | e | e | e | e | e <;> subst e <;> omega
abbrev lwP (x4 : Int) (Q : zQ) (d : Nat) (r5 : Int) : Option zV → zM → Prop := fun v M6 => ∃ r6 : Int, v = some (zI r6) ∧ ∀ cl6 : Bool, zF 64 [zR 18 0] M6 (fun v M7 => ∃ r7 : Int, v = some (zI r7) ∧ ∀ cl7 : Bool, (zr r7 ∧ zr r5) ∧ ((r7 = r5 → (zr r5) ∧ ((¬ r5 = 0 → zT 145 (33, [some (zR 32 0), some (zR 0 0), some (zR 18 0), some (zR 31 0), some (zI (x4 + 3)), some (zI r5), some (zI r6)], [], M7, cl7) (fun o m c e => Q o m c (d + e))) ∧ (r5 = 0 → (zr r6) ∧ ((zrl (M7.2.1 31 0 0) ∧ zrl r6) ∧ (((M7.2.1 31 0 0) = r6 → zT 145 (33, [some (zR 32 0), some (zR 0 0), some (zR 18 0), some (zR 31 0), some (zI (x4 + 3)), some (zI r5), some (zI r6)], [], M7, cl7) (fun o m c e => Q o m c (d + e))) ∧ (¬ ((M7.2.1 31 0 0) = r6) → (fun o m c e => Q o m c (d + e)) (.inl (some (zI 0))) M7 cl7 0)))))) ∧ (¬ (r7 = r5) → (fun o m c e => Q o m c (d + e)) (.inl (some (zI 0))) M7 cl7 0)))
theorem lwP_t {M : zM} {K x4 r : Int} {Q : zQ} (hI : iI M K) (hK : K + 1 ≤ 10000) (hr : zr r) (h0 : ¬ r = 0) (nx : lwN M K x4 Q) : lwP x4 Q 1 r (some (zI 0)) (z_w M 18 0 1 r) :=
  ⟨0, rfl, fun _ => c64 ⟨_, rfl, fun _ => tlA rfl hr (fun q => absurd q h0) (nx _ 1 _ _ _ (iI_code hI hK) (sSc_code _ _) (by omega))⟩⟩
theorem zX_F {k : Nat} {as : List zV} {M : zM} {R : Option zV → zM → Bool → Prop} {T : Nat → zM → Prop} (h : zF k as M (fun v m => ∀ c, R v m c)) : zX k as M R T := zF.toX h
theorem lw820 {M : zM} {K x4 : Int} {u5 u6 : Option zV} {cl : Bool} {Q : zQ} (hI : iI M K) (hK : K + 1 ≤ 10000) (hx : lwX M x4) (nx : lwN M K x4 Q) : zT 145 (820, [some (zR 32 0), some (zR 0 0), some (zR 18 0), some (zR 31 0), some (zI x4), u5, u6], [], M, cl) Q := by
  have hI' := hI
  obtain ⟨a, s, q, T, i1, i2, i3, i4, i5, i6, i7, i8, i9, i10⟩ := hI'
  obtain ⟨⟨x1, x2, x3⟩, hz⟩ := hx
  have z1 := hz (x4 + 1).toNat
  have z2 := hz (x4 + 2).toNat
  obtain ⟨en, hsl, hen⟩ := iS_sl i1
  generalize hN : M.1 32 0 (x4 + 1).toNat = N at *
  generalize hN2 : M.1 32 0 (x4 + 2).toNat = N2 at *
  have bad : N < 0 ∨ 2 ≤ N ∨ N2 < 0 ∨ 4 ≤ N2 → z_wi (x4 + 1) M.2.2 ∧ z_wi (x4 + 2) M.2.2 ∧ zF 144 [zR 18 0, zI N, zI N2] M (lwP x4 Q 1 1) := by
    intro hb
    have fin : lwP x4 Q 1 1 (some (zI 0)) (z_w M 18 0 1 1) := lwP_t hI hK (by decide) (by decide) nx
    exact ⟨by omega, by omega, g144_0 ⟨by omega, fun c => ⟨rfl, fin⟩, fun c => ⟨by omega, fun c2 => ⟨rfl, fin⟩, fun c2 => ⟨by omega, fun c3 => ⟨rfl, fin⟩, fun c3 => ⟨by omega, fun c4 => by omega, fun c4 => ⟨rfl, fin⟩⟩⟩⟩⟩⟩
  refine g145_820_32 ?_
  rw [hN, hN2]
  refine ⟨by omega, by omega, g143_0 (g142_0 ⟨by omega, fun c => ⟨rfl, rfl, 1, rfl, _, rfl, fun _ => ?_⟩, fun c => ⟨by omega, fun c2 => ⟨rfl, rfl, 1, rfl, _, rfl, fun _ => ?_⟩, fun c2 => ⟨by omega, fun c3 => ⟨rfl, rfl, 1, rfl, _, rfl, fun _ => ?_⟩, fun c3 => ⟨by omega, fun c4 => ?_, fun c4 => ⟨rfl, rfl, 1, rfl, _, rfl, fun _ => ?_⟩⟩⟩⟩⟩)⟩
  · rw [hN, hN2]; exact bad (by omega)
  · rw [hN, hN2]; exact bad (by omega)
  · rw [hN, hN2]; exact bad (by omega)
  rotate_left
  · rw [hN, hN2]; exact bad (by omega)
  · obtain ⟨b, rfl⟩ : ∃ b : Nat, N = (b : Int) := ⟨N.toNat, by omega⟩
    obtain ⟨d, rfl⟩ : ∃ d : Nat, N2 = (d : Int) := ⟨N2.toNat, by omega⟩
    have h1 := cS_sl i3 (b * 4 + d) (by omega)
    have h2 := mS_sl i4 (b * 4 + d) (by omega)
    have h3 := iSl_r hsl hen (b * 4 + d) (by omega)
    refine g128_0 ?_
    rw [show ((b : Int) * 4 + (d : Int)).toNat = b * 4 + d by omega, h1]
    refine ⟨by omega, rfl, rfl, _, rfl, rfl, _, rfl, fun _ => ⟨by omega, _, rfl, fun _ => ?_⟩⟩
    rw [show (z_wl M 31 0 0 (aSl s (b * 4 + d))).1 32 0 (x4 + 1).toNat = (b : Int) from hN, show (z_wl M 31 0 0 (aSl s (b * 4 + d))).1 32 0 (x4 + 2).toNat = (d : Int) from hN2]
    refine ⟨by show z_wi (x4 + 1) M.2.2; omega, by show z_wi (x4 + 2) M.2.2; omega, g144_0 ⟨by omega, fun c => by omega, fun c => ⟨by omega, fun c2 => by omega, fun c2 => ⟨by omega, fun c3 => by omega, fun c3 => ⟨by omega, fun c4 => ⟨by omega, rfl, _, rfl, fun _ => c64 ⟨_, rfl, fun _ => ?_⟩⟩, fun c4 => by omega⟩⟩⟩⟩⟩
    have eo : (z_w (z_wl M 31 0 0 (aSl s (b * 4 + d))) 18 0 1 0).2.1 31 0 0 = aSl s (b * 4 + d) := rfl
    rw [eo, show (4 * (b : Int) + (d : Int)).toNat = b * 4 + d by omega, show (z_wl M 31 0 0 (aSl s (b * 4 + d))).1 30 0 (b * 4 + d) = aSl s (b * 4 + d) from h2]
    exact tlA rfl (by decide) (fun _ => ⟨by omega, rfl⟩) (nx _ 0 _ _ _ (iI_code (iI_wl hI) hK) ((sSc_wl _ _).trans (sSc_code _ _)) (by omega))
