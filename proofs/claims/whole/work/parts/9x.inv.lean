-- Ticks keep the state's bounds. (own work)
theorem endB_ok {a K : Int} {n : Nat} {D : Nat → Nat → Int} {L F P G sl : Nat → Int} {w : Int} {e x : Nat} {md wt hd cu en tl : Int} (ha1 : 1 ≤ a ∧ a ≤ 1000) (h8 : n ≤ 8) (hB : okB n D L F) (hn : 1 ≤ n) (hx : x ≤ 1000000) (hhd : hd = 0 ∨ hd = 1) (hcu : -1 ≤ cu ∧ cu ≤ 5) (hsl : iSl en sl) (hen : 0 ≤ en ∧ en + n ≤ K ∧ K ≤ 10000)
    (hc : iCn (n - 1) (fun i => D (i + 1)) G P) : iS a K (endB a (n, (D, L, F), (w, e, x, md, wt), (P, G), (hd, 0, cu), (en, sl), tl)) := by
  have hP : ∀ q, q < 3 → -99999 ≤ P q ∧ P q ≤ 99999 := fun q hq => by
    have h0 := (hc q hq).1 0 (by omega)
    simp only [sD] at h0
    omega
  have B1 := okB_sh hB
  have s5 := kSl_ok (w := 5) hsl hen.1 hP
  have sc := kSl_ok (w := cu) hsl hen.1 hP
  simp only [endB]
  by_cases c : cu = -1
  · rw [if_pos c]
    have h0 : iS a K (n - 1, (fun i => D (i + 1), fun i => L (i + 1), fun i => F (i + 1)), (0, e, x, md, wt), (P, G), (hd, 0, cu), (en + 1, kSl (en + 1) P sl 5), tl) := by
      refine ⟨ha1, by omega, B1, ⟨Or.inl rfl, fun q => absurd q (by decide)⟩, fun q hq => ?_, hhd, Or.inl rfl, hcu, fun q => absurd q (by decide), s5, by omega⟩
      unfold bsA
      rw [if_neg (by decide)]
      exact hc q hq
    by_cases c2 : hd = 0 ∧ 2 ≤ n
    · rw [if_pos c2]
      exact bgn_ok h0 (by omega) hx
    · rw [if_neg c2]; exact h0
  · rw [if_neg c]
    refine ⟨ha1, by omega, fun i hi => by omega, ⟨Or.inl rfl, fun q => absurd q (by decide)⟩, fun q hq => ?_, Or.inl rfl, Or.inr rfl, by omega, fun _ => rfl, sc, by omega⟩
    unfold bsA
    rw [if_neg (by decide)]
    have := hP q hq
    refine ⟨fun i hi => ?_, by simp only [sD]; omega⟩
    obtain rfl : i = 0 := by omega
    simp only [sD]; omega
theorem tck1_ok {a K : Int} {t : aS} (h : iS a K t) : iS a K (tck1 a t).1 := by
  obtain ⟨n, ⟨D, L, F⟩, ⟨w, e, x, md, wt⟩, ⟨P, G⟩, ⟨hd, of, cu⟩, ⟨en, sl⟩, tl⟩ := t
  have h' := h
  obtain ⟨i1, i2, i3, ⟨i41, i42⟩, i5, i6, i7, i8, i9, i10, i11⟩ := h'
  simp only [tck1]
  by_cases c : w = 0
  · rw [if_pos c]; exact h
  · have hw : w = 1 := by omega
    subst hw
    obtain ⟨j1, j2, j3, j4, j5, j6, j7, j8⟩ := i42 rfl
    have hof : of = 0 := by
      rcases i7 with q | q
      · exact q
      · have := i9 q; omega
    subst hof
    have hb0 := i3 0 (by omega)
    have hl0 := okB_L hb0
    have hf0 := hb0.1
    rw [if_neg c]
    by_cases c1 : 2 ≤ wt
    · rw [if_pos c1]
      exact ⟨i1, i2, i3, ⟨Or.inr rfl, fun _ => ⟨j1, j2, j3, j4, j5, j6, by omega, by omega⟩⟩, i5, i6, i7, i8, i9, i10, i11⟩
    · rw [if_neg c1]
      by_cases c2 : F 0 = 0
      · rw [if_pos c2]
        refine endB_ok (w := 1) i1 i2 i3 j1 j3 i6 i8 i10 i11 (fun q hq => ?_)
        have hz := (hb0.2.2.1 c2).1 q hq
        have h5 := i5 q hq
        unfold bsA at h5
        rw [if_pos rfl, j6 c2, sAf_0 hl0.1, Int.sub_zero] at h5
        refine ⟨fun i hi => ?_, ?_⟩
        · have h6 := h5.1 (i + 1) (by omega)
          have h7 := sD_sh D q i
          omega
        · have h6 := h5.2
          have h7 := sD_sh D q (n - 1)
          rw [show n - 1 + 1 = n by omega] at h7
          omega
      · rw [if_neg c2]
        have hmd := j5 (by omega)
        by_cases c3 : md + 1 < L 0
        · rw [if_pos c3]
          refine ⟨i1, i2, i3, ⟨Or.inr rfl, fun _ => ⟨j1, j2, j3, by omega, fun _ => by omega, fun q => absurd q c2, bWt_r hb0 i1 (by omega)⟩⟩, fun q hq => ?_, i6, i7, i8, i9, i10, i11⟩
          have h5 := i5 q hq
          unfold bsA at h5 ⊢
          rw [if_pos rfl] at h5 ⊢
          rw [show P q + sDl (D 0) (L 0) md q - sAf (D 0 q) (L 0) (md + 1) = P q - sAf (D 0 q) (L 0) md by unfold sDl; omega]
          exact h5
        · rw [if_neg c3]
          have em : md + 1 = L 0 := by omega
          refine endB_ok (w := 1) i1 i2 i3 j1 j3 i6 i8 i10 i11 (fun q hq => ?_)
          have h5 := i5 q hq
          unfold bsA at h5
          rw [if_pos rfl] at h5
          have e1 : P q + sDl (D 0) (L 0) md q = P q - sAf (D 0 q) (L 0) md + D 0 q := by
            unfold sDl
            rw [em, sAf_l hl0.1]; omega
          rw [e1]
          refine ⟨fun i hi => ?_, ?_⟩
          · have h6 := h5.1 (i + 1) (by omega)
            have h7 := sD_sh D q i
            omega
          · have h6 := h5.2
            have h7 := sD_sh D q (n - 1)
            rw [show n - 1 + 1 = n by omega] at h7
            omega
theorem tck_ok {a K : Int} {s : aS} (h : iS a K s) : iS a K (tck a s).1 := tck1_ok (beg_ok h)
-- a step is made if and only if there are bits
theorem tck_bits {a K : Int} {s : aS} (h : iS a K s) : ((tck a s).2.2 = 0 ∨ (tck a s).2.2 = 1) ∧ z_p (tck a s).2.1 ∧ ((tck a s).2.1 = 0 ↔ (tck a s).2.2 = 0) := by
  have h := beg_ok h
  unfold tck
  generalize beg a s = t at *
  obtain ⟨n, ⟨D, L, F⟩, ⟨w, e, x, md, wt⟩, ⟨P, G⟩, ⟨hd, of, cu⟩, ⟨en, sl⟩, tl⟩ := t
  obtain ⟨i1, i2, i3, ⟨i41, i42⟩, i5, i6, i7, i8, i9, i10, i11⟩ := h
  have z0 : ((0 : Int) = 0 ∨ (0 : Int) = 1) ∧ z_p 0 ∧ ((0 : Int) = 0 ↔ (0 : Int) = 0) := by decide
  simp only [tck1]
  by_cases c : w = 0
  · rw [if_pos c]; exact z0
  · rw [if_neg c]
    obtain ⟨j1, j2, j3, j4, j5, j6, j7, j8⟩ := i42 (by omega)
    have hb0 := i3 0 (by omega)
    have hl0 := okB_L hb0
    have hf0 := hb0.1
    by_cases c1 : 2 ≤ wt
    · rw [if_pos c1]; exact z0
    · rw [if_neg c1]
      by_cases c2 : F 0 = 0
      · rw [if_pos c2]; exact z0
      · rw [if_neg c2]
        have hp := sBt_r (D 0) (L 0) md
        have hnz := sBt_nz (D0 := D 0) (md := md) hl0.1 (hb0.2.2.2 (by omega)).1
        by_cases c3 : md + 1 < L 0
        · rw [if_pos c3]
          exact ⟨Or.inr rfl, hp, ⟨fun q => by dsimp only at q; omega, fun q => by dsimp only at q; omega⟩⟩
        · rw [if_neg c3]
          exact ⟨Or.inr rfl, hp, ⟨fun q => by dsimp only at q; omega, fun q => by dsimp only at q; omega⟩⟩
