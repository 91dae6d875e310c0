-- A tick of the class, whole. (own work)
theorem bgn_ok {a K : Int} {n : Nat} {D : Nat → Nat → Int} {L F P G sl : Nat → Int} {e x g : Nat} {md wt hd of cu en tl : Int} (h : iS a K (n, (D, L, F), (0, e, x, md, wt), (P, G), (hd, of, cu), (en, sl), tl)) (hn : 1 ≤ n) (hg : g ≤ 1000000) : iS a K (bgn a g (n, (D, L, F), (0, e, x, md, wt), (P, G), (hd, of, cu), (en, sl), tl)) := by
  obtain ⟨h1, h2, h3, h4, h5, h6⟩ := h
  have hb0 := h3 0 (by omega)
  have hl0 := okB_L hb0
  refine ⟨h1, h2, h3, ⟨Or.inr rfl, fun _ => ⟨hn, hg, pE_1b h3, by omega, fun _ => by omega, fun _ => rfl, bWt_r hb0 h1 (by omega)⟩⟩, fun q hq => ?_, h6⟩
  have h7 := h5 q hq
  unfold bsA at h7 ⊢
  rw [if_neg (by decide)] at h7
  rw [if_pos rfl, sAf_0 hl0.1, Int.sub_zero]
  exact h7
theorem beg_ok {a K : Int} {s : aS} (h : iS a K s) : iS a K (beg a s) := by
  obtain ⟨n, ⟨D, L, F⟩, ⟨w, e, x, md, wt⟩, ⟨P, G⟩, ⟨hd, of, cu⟩, ⟨en, sl⟩, tl⟩ := s
  simp only [beg]
  by_cases c : w = 0 ∧ hd = 0 ∧ 1 ≤ n
  · rw [if_pos c]
    obtain ⟨c1, c2, c3⟩ := c
    subst c1
    exact bgn_ok h c3 (by omega)
  · rw [if_neg c]; exact h
theorem c72 {M : zM} {a K : Int} {s : aS} {R : Option zV → zM → Prop} (hs : cS M a s) (hi : iS a K s) (h : ∀ M', zfr p71 zno M M' → cS M' a (beg a s) → R none M') : zF 72 [zR 0 0] M R := by
  obtain ⟨n, ⟨D, L, F⟩, ⟨w, e, x, md, wt⟩, ⟨P, G⟩, ⟨hd, of, cu⟩, ⟨en, sl⟩, tl⟩ := s
  have hs' := hs
  obtain ⟨r, ha, ⟨w4, wk0, wk1⟩, s1, s2, s3, s4, s5, s6, s7⟩ := hs'
  obtain ⟨i1, i2, i3, i4, i5, i6, i7⟩ := hi
  simp only [beg] at h
  refine g72_0 ?_
  rw [w4, s2]
  have i40 := i4.1
  refine ⟨by omega, fun c => ⟨rfl, ?_⟩, fun c => ⟨by omega, fun c2 => ⟨rfl, ?_⟩, fun c2 => ?_⟩⟩
  · rw [if_neg (fun q => c q.1)] at h
    exact h M (zfr.refl _ _ _) hs
  · rw [if_neg (fun q => c2 q.2.1)] at h
    exact h M (zfr.refl _ _ _) hs
  · by_cases hn : 1 ≤ n
    · rw [if_pos ⟨c, c2, hn⟩] at h
      refine c71 (g := 0) r i3 ha i1 (by rw [w4]; exact c) hn (by omega) (wk0 c) (fun M1 f1 r1 wk => ⟨rfl, fun _ => ⟨rfl, ?_⟩⟩)
      have k1 : ∀ k, ¬ k = 8 → ¬ k = 10 → ∀ j s, M1.1 k j s = M.1 k j s := fun k h1 h2 j s => f1.1 k j s (by simp [p71, h1, h2])
      exact h M1 f1 ⟨r1, by rw [f1.1 8 0 1 (by simp [p71])]; exact ha, wk, cRs_eq (fun s => k1 0 (by omega) (by omega) _ _) (fun s => k1 14 (by omega) (by omega) _ _) (fun s => k1 15 (by omega) (by omega) _ _) (k1 12 (by omega) (by omega) _ _) (fun s => k1 13 (by omega) (by omega) _ _) (k1 1 (by omega) (by omega) _ _) ⟨s1, s2, s3, s4, s5, s6, s7⟩⟩
    · rw [if_neg (fun q => hn q.2.2)] at h
      have e0 : n = 0 := by omega
      refine g71_0 ?_
      rw [r.2.1, e0]
      exact ⟨by omega, fun c3 => absurd rfl c3, fun _ => ⟨rfl, rfl, fun _ => ⟨rfl, h M (zfr.refl _ _ _) hs⟩⟩⟩
theorem p71_83 : ∀ k s, p71 k s → p83 k s := fun k s hp => by
  rcases hp with hp | hp
  · exact Or.inl hp.1
  · exact Or.inr (Or.inl hp.1)
theorem p76_83 : ∀ k s, p76 k s → p83 k s := fun k s hp => by
  rcases hp with hp | hp
  · exact Or.inr (Or.inr (Or.inr (Or.inr (Or.inl hp))))
  · exact Or.inl hp.1
theorem c83 {M : zM} {a K : Int} {s : aS} {R : Option zV → zM → Prop} (hs : cS M a s) (hi : iS a K s) (h : ∀ M', zfr p83 zno M M' → cS M' a (tck a s).1 → R (some (zI (tck a s).2.1)) M') : zF 83 [zR 0 0] M R := by
  refine g83_0 (c72 hs hi (fun M1 f1 s1 => ⟨rfl, fun _ => ?_⟩))
  have hi1 := beg_ok hi
  replace f1 : zfr p83 zno M M1 := f1.mono p71_83 (fun _ _ hp => hp)
  unfold tck at h
  generalize beg a s = t at *
  obtain ⟨n, ⟨D, L, F⟩, ⟨w, e, x, md, wt⟩, ⟨P, G⟩, ⟨hd, of, cu⟩, ⟨en, sl⟩, tl⟩ := t
  have s1' := s1
  obtain ⟨r, ha, ⟨w4, wk0, wk1⟩, c1, c2, c3, c4, c5, c6, c7⟩ := s1'
  obtain ⟨i1, i2, i3, ⟨i41, i42⟩, i5, i6, i7, i8, i9, i10, i11⟩ := hi1
  simp only [tck1] at h
  rw [w4]
  refine ⟨by omega, fun c => ⟨rfl, ?_⟩, fun c => ?_⟩
  · rw [if_pos c] at h
    exact h M1 f1 s1
  · have hw1 : w = 1 := by omega
    obtain ⟨g1, g2, g3, g4, g5⟩ := wk1 hw1
    obtain ⟨j1, j2, j3, j4, j5, j6, j7, j8⟩ := i42 hw1
    have hof : of = 0 := by
      rcases i7 with q | q
      · exact q
      · have := i9 q; omega
    subst hof
    rw [if_neg c] at h
    have hb0 := i3 0 (by omega)
    have hl0 := okB_L hb0
    have hq0 := sq_b hb0.1
    have hr0 := r.2.2.2 0 (by omega)
    have f2 : zfr p83 zno M (z_w M1 8 0 6 (wt - 1)) := f1.w 8 0 6 _ (by simp [p83])
    have hcs : cRs (z_w M1 8 0 6 (wt - 1)) P G hd 0 cu en sl tl := cRs_eq (fun s => rfl) (fun s => rfl) (fun s => rfl) rfl (fun s => rfl) rfl ⟨c1, c2, c3, c4, c5, c6, c7⟩
    have hr2 : cRow (z_w M1 8 0 6 (wt - 1)) n D L F := cRow_eq rfl rfl (fun b s => rfl) (fun b => rfl) (fun b => rfl) r
    refine c73 (by rw [g5]; omega) ⟨_, rfl, fun _ => ?_⟩
    rw [g5]
    by_cases c0 : 0 < wt - 1
    · rw [if_pos c0]
      rw [if_pos (by omega)] at h
      refine ⟨by omega, fun q => absurd rfl q, fun _ => ⟨rfl, h _ f2 ⟨hr2, ha, ⟨w4, fun q => by omega, fun _ => ⟨g1, g2, cEnt_eq rfl (fun i _ _ => rfl) g3, g4, rfl⟩⟩, hcs⟩⟩⟩
    · rw [if_neg c0]
      rw [if_neg (by omega)] at h
      refine ⟨by omega, fun _ => c31z hr2.1 ⟨_, rfl, fun _ => c68 (by show zr (M1.1 10 (bN M1 0) 2); rw [hr0.2.2]; omega) ⟨_, rfl, fun _ => ?_⟩⟩, fun q => absurd q (by decide)⟩
      rw [show (z_w M1 8 0 6 (wt - 1)).1 10 (bN (z_w M1 8 0 6 (wt - 1)) 0) 2 = F 0 * F 0 from hr0.2.2]
      by_cases hF : F 0 = 0
      · rw [if_pos (by rw [hF]; rfl)]
        rw [if_pos hF] at h
        refine ⟨by omega, fun q => absurd q (by decide), fun _ => c77 hr2 i3 j1 g4 (by omega) ⟨_, rfl, fun _ => ?_⟩⟩
        rw [if_pos (Or.inl hF)]
        refine ⟨by omega, fun q => absurd q (by decide), fun _ => c82 (w := w) (e := e) (md := md) (wt := wt - 1) hr2 i3 j1 ha i1 (cEnt_eq rfl (fun i _ _ => rfl) g3) j3 hcs i6 i8 (by omega) (fun M3 f3 s3 => ⟨rfl, fun _ => ⟨rfl, ?_⟩⟩)⟩
        exact h M3 (f2.trans f3) s3
      · have hF2 : ¬ F 0 * F 0 = 0 := fun q => hF (sq_z hb0.1.1 q)
        rw [if_neg hF2]
        rw [if_neg hF] at h
        have hF1 : 1 ≤ F 0 := by have := hb0.1; omega
        refine ⟨by omega, fun _ => ?_, fun q => absurd rfl q⟩
        refine c76 (e := e) (x := x) hr2 i3 j1 ha i1 g1 g2 j2 j3 g4 ⟨j4, j5 hF1⟩ hF (fun M3 f3 P3 m3 t3 => ⟨_, rfl, fun _ => ?_⟩)
        have f23 := f2.trans (f3.mono p76_83 (fun _ _ hp => hp))
        have k3 : ∀ k, ¬ k = 14 → ¬ k = 8 → ∀ j s, M3.1 k j s = M1.1 k j s := fun k q1 q2 j s => by
          rw [f3.1 k j s (by simp [p76, q1, q2]), z_w_get_ne (fun q => q2 q.1)]
        have k8 : ∀ s, ¬ s = 5 → ¬ s = 6 → M3.1 8 0 s = M1.1 8 0 s := fun s q1 q2 => by
          rw [f3.1 8 0 s (by simp [p76, q1, q2]), z_w_get_ne (fun q => q2 q.2.2)]
        have r3 : cRow M3 n D L F := cRow_eq (k8 2 (by omega) (by omega)) (k8 3 (by omega) (by omega)) (fun b s => k3 11 (by omega) (by omega) _ _) (fun b => k3 10 (by omega) (by omega) _ _) (fun b => k3 10 (by omega) (by omega) _ _) r
        have E3 : cEnt M3 n (qC D F) (qD a L) 1 x := cEnt_eq (k8 2 (by omega) (by omega)) (fun i _ _ => k3 10 (by omega) (by omega) _ _) g3
        have cs3 : cRs M3 (fun q => P q + sDl (D 0) (L 0) md q) G hd 0 cu en sl tl := by
          refine ⟨fun q hq => ?_, ?_, ?_, ?_, ?_, fun k hk => ?_, ?_⟩
          · rw [P3 q hq, k3 15 (by omega) (by omega)]
            exact ⟨by show M1.1 14 0 q + _ = _; rw [(c1 q hq).1], (c1 q hq).2⟩
          · rw [k3 0 (by omega) (by omega)]; exact c2
          · rw [k3 0 (by omega) (by omega)]; exact c3
          · rw [k3 0 (by omega) (by omega)]; exact c4
          · rw [k3 12 (by omega) (by omega)]; exact c5
          · rw [k3 13 (by omega) (by omega)]; exact c6 k hk
          · rw [k3 1 (by omega) (by omega)]; exact c7
        refine c77 r3 i3 j1 m3 (by omega) ⟨_, rfl, fun _ => ?_⟩
        by_cases hL : md + 1 < L 0
        · rw [if_neg (by omega)]
          rw [if_pos hL] at h
          refine ⟨by omega, fun _ => ⟨rfl, h M3 f23 ⟨r3, by rw [k8 1 (by omega) (by omega)]; exact ha, ⟨by rw [k8 4 (by omega) (by omega)]; exact w4, fun q => by omega, fun _ => ⟨?_, ?_, E3, m3, t3 hL⟩⟩, cs3⟩⟩, fun q => absurd rfl q⟩
          · have eb : bN M3 0 = bN M1 0 := by unfold bN bAt; rw [k8 2 (by omega) (by omega)]
            rw [eb, k3 10 (by omega) (by omega)]; exact g1
          · have eb : bN M3 0 = bN M1 0 := by unfold bN bAt; rw [k8 2 (by omega) (by omega)]
            rw [eb, k3 10 (by omega) (by omega)]; exact g2
        · rw [if_pos (Or.inr (by omega))]
          rw [if_neg hL] at h
          refine ⟨by omega, fun q => absurd q (by decide), fun _ => c82 (w := w) (e := e) (md := md + 1) (wt := 0) r3 i3 j1 (by rw [k8 1 (by omega) (by omega)]; exact ha) i1 E3 j3 cs3 i6 i8 (by omega) (fun M4 f4 s4 => ⟨rfl, fun _ => ⟨rfl, ?_⟩⟩)⟩
          exact h M4 (f23.trans f4) s4
