-- A step of the reference. (own work)
abbrev p97 : Nat → Nat → Prop := fun k s => p96 k s ∨ (k = 18 ∧ s = 31)
abbrev l97 : Nat → Nat → Prop := l96
theorem hi97 : hiK p97 := fun k s h => by
  rcases h with h | h
  · exact hi96 k s h
  · omega
theorem p96_97 : ∀ k s, p96 k s → p97 k s := fun k s hp => Or.inl hp
theorem okB_D {D : Nat → Int} {L F : Int} (h : okB1 D L F) : ∀ q, q < 3 → -L ≤ D q ∧ D q ≤ L := by
  intro q hq
  have hl := okB_L h
  by_cases e : F = 0
  · rw [(h.2.2.1 e).1 q hq]; omega
  · have h1 := h.1
    have h2 := h.2.2.2 (by omega)
    have h3 := len3_le (a := D)
    have i0 := iab_r (D 0); have i1 := iab_r (D 1); have i2 := iab_r (D 2)
    rcases (show q = 0 ∨ q = 1 ∨ q = 2 by omega) with e | e | e <;> subst e <;> omega
theorem iCn_P {n : Nat} {D : Nat → Nat → Int} {G P : Nat → Int} {L0 F0 md m : Int} (hB : okB1 (D 0) L0 F0) (hn : 1 ≤ n) (h : iCn n D G (bsA (D 0) L0 P 1 md)) (hm : 0 ≤ m ∧ m ≤ L0) : ∀ q, q < 3 → -99999 ≤ P q - sAf (D 0 q) L0 md + sAf (D 0 q) L0 m ∧ P q - sAf (D 0 q) L0 md + sAf (D 0 q) L0 m ≤ 99999 := by
  intro q hq
  have hl := okB_L hB
  have hd := okB_D hB q hq
  have hb := sAf_b hd hl.1 hm
  have h0 := (h q hq).1 0 (by omega)
  have h1 := (h q hq).1 1 hn
  unfold bsA at h0 h1
  rw [if_pos rfl] at h0 h1
  simp only [sD] at h0 h1
  omega
theorem iS_P {a K : Int} {n : Nat} {B : (Nat → Nat → Int) × (Nat → Int) × (Nat → Int)} {W : Int × Nat × Nat × Int × Int} {P G : Nat → Int} {r : (Int × Int × Int) × (Int × (Nat → Int)) × Int} (h : iS a K (n, B, W, (P, G), r)) : ∀ q, q < 3 → -99999 ≤ P q ∧ P q ≤ 99999 := by
  obtain ⟨D, L, F⟩ := B
  obtain ⟨w, e, x, md, wt⟩ := W
  obtain ⟨⟨hd, of, cu⟩, ⟨en, sl⟩, tl⟩ := r
  intro q hq
  obtain ⟨i1, i2, i3, ⟨i41, i42⟩, i5, i6⟩ := h
  rcases i41 with c | c
  · subst c
    have h0 := (i5 q hq).1 0 (by omega)
    unfold bsA at h0
    rw [if_neg (by decide)] at h0
    simp only [sD] at h0
    omega
  · subst c
    obtain ⟨j1, j2, j3, j4, j5, j6, j7, j8⟩ := i42 rfl
    have hb := i3 0 (by omega)
    have hl := okB_L hb
    have hf := hb.1
    have hm : md ≤ L 0 := by
      by_cases e : F 0 = 0
      · have := j6 e; omega
      · have := j5 (by omega); omega
    have := iCn_P hb j1 i5 (m := md) ⟨j4, hm⟩ q hq
    omega
theorem c97_a0 {M : zM} {x1 t : Int} {u3 : Option zV} {cl : Bool} {Q : zQ} (hx : z_p x1) (hk : okM M 0) (hl : 1 ≤ mLn M 0) (hm : 0 ≤ M.1 18 0 23 ∧ M.1 18 0 23 ≤ 500) (ht : M.1 29 0 0 + sAf (mB M 0 0) (mLn M 0) (M.1 18 0 23) = t) (htr : -99999 ≤ t ∧ t ≤ 99999) (hp : -99999 ≤ M.1 23 0 0 ∧ M.1 23 0 0 ≤ 99999)
    (h : ∀ (u : Option zV) (cl : Bool), zT 97 (85, [some (zR 18 0), some (zI (orB x1 (t - M.1 23 0 0) 0)), some (zI 1), u], [], z_w M 23 0 0 t, cl) Q) : zT 97 (85, [some (zR 18 0), some (zI x1), some (zI 0), u3], [], M, cl) Q := by
  refine g97_85a0 (c94 (a := 0) (by omega) hk hl hm ⟨_, rfl, fun _ => ?_⟩)
  rw [ht]
  have h1 := h (some (zI t)) false
  have hp1 : z_p (1 * 2 ^ 0) := by decide
  have hp9 : z_p (9 * 2 ^ 0) := by decide
  have hp0 : z_p 0 := by decide
  refine ⟨by omega, fun c => ⟨by omega, fun c2 => ⟨⟨hx, hp0⟩, ?_⟩, fun c2 => ⟨⟨hx, hp9⟩, ?_⟩⟩, fun c => ⟨⟨hx, hp1⟩, ?_⟩⟩
  · rw [orB, if_pos (by omega)] at h1
    rw [show Int.ofNat (Int.toNat x1 ||| Int.toNat 0) = x1 by
      show Int.ofNat (Int.toNat x1 ||| 0) = x1
      rw [Nat.or_zero]; simp only [Int.ofNat_eq_natCast]; omega]
    exact h1
  · rw [orB, if_neg (by omega), if_neg (by omega)] at h1
    exact h1
  · rw [orB, if_neg (by omega), if_pos (by omega)] at h1
    exact h1
theorem c97_a1 {M : zM} {x1 t : Int} {u3 : Option zV} {cl : Bool} {Q : zQ} (hx : z_p x1) (hk : okM M 0) (hl : 1 ≤ mLn M 0) (hm : 0 ≤ M.1 18 0 23 ∧ M.1 18 0 23 ≤ 500) (ht : M.1 29 0 1 + sAf (mB M 0 1) (mLn M 0) (M.1 18 0 23) = t) (htr : -99999 ≤ t ∧ t ≤ 99999) (hp : -99999 ≤ M.1 23 0 1 ∧ M.1 23 0 1 ≤ 99999)
    (h : ∀ (u : Option zV) (cl : Bool), zT 97 (85, [some (zR 18 0), some (zI (orB x1 (t - M.1 23 0 1) 1)), some (zI 2), u], [], z_w M 23 0 1 t, cl) Q) : zT 97 (85, [some (zR 18 0), some (zI x1), some (zI 1), u3], [], M, cl) Q := by
  refine g97_85a1 (c94 (a := 1) (by omega) hk hl hm ⟨_, rfl, fun _ => ?_⟩)
  rw [ht]
  have h1 := h (some (zI t)) false
  have hp1 : z_p (1 * 2 ^ 1) := by decide
  have hp9 : z_p (9 * 2 ^ 1) := by decide
  have hp0 : z_p 0 := by decide
  refine ⟨by omega, fun c => ⟨by omega, fun c2 => ⟨⟨hx, hp0⟩, ?_⟩, fun c2 => ⟨⟨hx, hp9⟩, ?_⟩⟩, fun c => ⟨⟨hx, hp1⟩, ?_⟩⟩
  · rw [orB, if_pos (by omega)] at h1
    rw [show Int.ofNat (Int.toNat x1 ||| Int.toNat 0) = x1 by
      show Int.ofNat (Int.toNat x1 ||| 0) = x1
      rw [Nat.or_zero]; simp only [Int.ofNat_eq_natCast]; omega]
    exact h1
  · rw [orB, if_neg (by omega), if_neg (by omega)] at h1
    exact h1
  · rw [orB, if_neg (by omega), if_pos (by omega)] at h1
    exact h1
theorem c97_a2 {M : zM} {x1 t : Int} {u3 : Option zV} {cl : Bool} {Q : zQ} (hx : z_p x1) (hk : okM M 0) (hl : 1 ≤ mLn M 0) (hm : 0 ≤ M.1 18 0 23 ∧ M.1 18 0 23 ≤ 500) (ht : M.1 29 0 2 + sAf (mB M 0 2) (mLn M 0) (M.1 18 0 23) = t) (htr : -99999 ≤ t ∧ t ≤ 99999) (hp : -99999 ≤ M.1 23 0 2 ∧ M.1 23 0 2 ≤ 99999)
    (h : ∀ (u : Option zV) (cl : Bool), zT 97 (85, [some (zR 18 0), some (zI (orB x1 (t - M.1 23 0 2) 2)), some (zI 3), u], [], z_w M 23 0 2 t, cl) Q) : zT 97 (85, [some (zR 18 0), some (zI x1), some (zI 2), u3], [], M, cl) Q := by
  refine g97_85a2 (c94 (a := 2) (by omega) hk hl hm ⟨_, rfl, fun _ => ?_⟩)
  rw [ht]
  have h1 := h (some (zI t)) false
  have hp1 : z_p (1 * 2 ^ 2) := by decide
  have hp9 : z_p (9 * 2 ^ 2) := by decide
  have hp0 : z_p 0 := by decide
  refine ⟨by omega, fun c => ⟨by omega, fun c2 => ⟨⟨hx, hp0⟩, ?_⟩, fun c2 => ⟨⟨hx, hp9⟩, ?_⟩⟩, fun c => ⟨⟨hx, hp1⟩, ?_⟩⟩
  · rw [orB, if_pos (by omega)] at h1
    rw [show Int.ofNat (Int.toNat x1 ||| Int.toNat 0) = x1 by
      show Int.ofNat (Int.toNat x1 ||| 0) = x1
      rw [Nat.or_zero]; simp only [Int.ofNat_eq_natCast]; omega]
    exact h1
  · rw [orB, if_neg (by omega), if_neg (by omega)] at h1
    exact h1
  · rw [orB, if_neg (by omega), if_pos (by omega)] at h1
    exact h1
theorem c97 {M : zM} {a K : Int} {s : aS} {R : Option zV → zM → Prop} (hs : mS M a s) (hi : iS a K s) (h : ∀ M', zfr p97 l97 M M' → mS M' a (tck a s).1 → M'.1 18 0 31 = (tck a s).2.2 → R (some (zI (tck a s).2.1)) M') : zF 97 [zR 18 0] M R := by
  have hi1 := beg_ok hi
  have rest : ∀ (M1 : zM) (u1 u2 u3 : Option zV) (cl : Bool), zfr p97 l97 M M1 → mS M1 a (beg a s) → M1.1 18 0 31 = 0 → zT 97 (31, [some (zR 18 0), u1, u2, u3], [], M1, cl) (zq R) := by
    intro M1 u1 u2 u3 cl f1 s1 t31
    unfold tck at h
    generalize beg a s = t at *
    obtain ⟨n, ⟨D, L, F⟩, ⟨w, e, x, md, wt⟩, ⟨P, G⟩, ⟨hd, of, cu⟩, ⟨en, sl⟩, tl⟩ := t
    have s1' := s1
    obtain ⟨r, ha, ⟨w4, wk1⟩, hrs⟩ := s1'
    have hPr := iS_P hi1
    obtain ⟨i1, i2, i3, ⟨i41, i42⟩, i5, i6, i7, i8, i9, i10, i11⟩ := hi1
    simp only [tck1] at h
    refine g97_31 ?_
    rw [w4]
    refine ⟨by omega, fun c => ?_, fun c => ⟨rfl, ?_⟩⟩
    rotate_left
    · rw [if_pos c] at h
      exact h M1 f1 s1 t31
    · have hw1 : w = 1 := by omega
      obtain ⟨g1, g2, g3, g4, g5⟩ := wk1 hw1
      obtain ⟨j1, j2, j3, j4, j5, j6, j7, j8⟩ := i42 hw1
      have hof : of = 0 := by
        rcases i7 with q | q
        · exact q
        · have := i9 q; omega
      subst hof
      subst hw1
      rw [if_neg c] at h
      have hb0 := i3 0 (by omega)
      have hl0 := okB_L hb0
      have hr0 := r.2.2.2 0 (by omega)
      have e27 : M1.1 27 0 0 = F 0 := hr0.1
      have hf0 := hb0.1
      rw [e27, g4, g3]
      have f2 : zfr p97 l97 M (z_w M1 18 0 24 (wt - 1)) := f1.w 18 0 24 _ (by simp [p97, p96])
      have r2 : mRow (z_w M1 18 0 24 (wt - 1)) n D L F := mRow_eq rfl (fun s => rfl) (fun s => rfl) (fun s => rfl) r
      have rs2 : mRs (z_w M1 18 0 24 (wt - 1)) P G hd 0 cu en sl tl := mRs_eq rfl rfl rfl rfl rfl (fun s => rfl) (fun s => rfl) (fun s => rfl) hrs
      have quiet : 2 ≤ wt → ∀ (u2 u3 : Option zV) (cl : Bool), zT 97 (170, [some (zR 18 0), some (zI 0), u2, u3], [], z_w M1 18 0 24 (wt - 1), cl) (zq R) := by
        intro q u2 u3 cl
        rw [if_pos q] at h
        refine g97_170 ⟨by show zr (wt - 1); omega, fun _ => ⟨rfl, h _ f2 ⟨r2, ha, ⟨w4, fun _ => ⟨g1, g2, g3, rfl, g5⟩⟩, rs2⟩ t31⟩, fun q2 => ?_⟩
        have q3 : wt - 1 = 0 := q2
        omega
      refine ⟨by omega, fun c1 => ?_, fun c1 => ⟨by omega, fun c2 => quiet (by omega) _ _ _, fun c2 => ?_⟩⟩
      · have hF : F 0 = 0 := by omega
        by_cases q : 2 ≤ wt
        · exact quiet q _ _ _
        · rw [if_neg q, if_pos hF] at h
          refine g97_170 ⟨by show zr (wt - 1); omega, fun q2 => ?_, fun _ => ?_⟩
          · have q3 : ¬ wt - 1 = 0 := q2
            omega
          · refine c96 (w0 := 1) (e := e) (md := md) (wt := wt - 1) r2 i3 j1 ha i1 g2 j3 rs2 i6 i8 (by omega) (fun M3 f3 s3 => ⟨rfl, fun _ => ⟨rfl, ?_⟩⟩)
            exact h M3 (f2.trans (f3.mono p96_97 (fun _ _ hp => hp))) s3 (by rw [f3.1 18 0 31 (by simp [p96])]; exact t31)
      · have hF : ¬ F 0 = 0 := by omega
        rw [if_neg (by omega), if_neg hF] at h
        have hmd := j5 (by omega)
        have hP1 := iCn_P hb0 j1 i5 (m := md + 1) ⟨by omega, hmd⟩
        have f3 : zfr p97 l97 M (z_w (z_w (z_w M1 18 0 24 (wt - 1)) 18 0 31 1) 18 0 23 (md + 1)) := (f2.w 18 0 31 _ (by simp [p97, p96])).w 18 0 23 _ (by simp [p97, p96])
        have r3 : mRow (z_w (z_w (z_w M1 18 0 24 (wt - 1)) 18 0 31 1) 18 0 23 (md + 1)) n D L F := mRow_eq rfl (fun s => rfl) (fun s => rfl) (fun s => rfl) r
        have rs3 : mRs (z_w (z_w (z_w M1 18 0 24 (wt - 1)) 18 0 31 1) 18 0 23 (md + 1)) P G hd 0 cu en sl tl := mRs_eq rfl rfl rfl rfl rfl (fun s => rfl) (fun s => rfl) (fun s => rfl) hrs
        have g29 : ∀ q, q < 3 → (z_w (z_w (z_w M1 18 0 24 (wt - 1)) 18 0 31 1) 18 0 23 (md + 1)).1 29 0 q = P q - sAf (D 0 q) (L 0) md := g5
        have m3 : (z_w (z_w (z_w M1 18 0 24 (wt - 1)) 18 0 31 1) 18 0 23 (md + 1)).1 18 0 23 = md + 1 := rfl
        have t3 : (z_w (z_w (z_w M1 18 0 24 (wt - 1)) 18 0 31 1) 18 0 23 (md + 1)).1 18 0 31 = 1 := rfl
        have a3 : (z_w (z_w (z_w M1 18 0 24 (wt - 1)) 18 0 31 1) 18 0 23 (md + 1)).1 18 0 0 = a := ha
        have w3 : (z_w (z_w (z_w M1 18 0 24 (wt - 1)) 18 0 31 1) 18 0 23 (md + 1)).1 18 0 19 = 1 := w4
        have e3 : (z_w (z_w (z_w M1 18 0 24 (wt - 1)) 18 0 31 1) 18 0 23 (md + 1)).2.1 18 0 20 = (e : Int) := g1
        have x3 : (z_w (z_w (z_w M1 18 0 24 (wt - 1)) 18 0 31 1) 18 0 23 (md + 1)).2.1 18 0 21 = (x : Int) := g2
        generalize z_w (z_w (z_w M1 18 0 24 (wt - 1)) 18 0 31 1) 18 0 23 (md + 1) = N at *
        obtain ⟨q1, q2, q3, q4, q5, q6, q7⟩ := rs3
        have eL := mLn_of r3 i3 (show 0 < n by omega)
        rw [if_neg hF] at eL
        have eB := (r3.2.2.2 0 (by omega)).2.2 (by omega)
        have okN := okM_of r3 i3 (show 0 < n by omega)
        have tq : ∀ q, q < 3 → N.1 29 0 q + sAf (mB N 0 q) (mLn N 0) (N.1 18 0 23) = P q + sDl (D 0) (L 0) md q := by
          intro q hq
          rw [g29 q hq, eB q hq, eL, m3]
          unfold sDl; omega
        have pr : ∀ q, q < 3 → -99999 ≤ P q + sDl (D 0) (L 0) md q ∧ P q + sDl (D 0) (L 0) md q ≤ 99999 := by
          intro q hq
          have := hP1 q hq
          unfold sDl; omega
        have r0 : z_p (orB 0 (sDl (D 0) (L 0) md 0) 0) := orB_r (by decide) (by omega)
        have r1 : z_p (orB (orB 0 (sDl (D 0) (L 0) md 0) 0) (sDl (D 0) (L 0) md 1) 1) := orB_r r0 (by omega)
        refine c97_a0 (by decide) okN (by omega) (by omega) (tq 0 (by omega)) (pr 0 (by omega)) (by rw [(q1 0 (by omega)).1]; exact hPr 0 (by omega)) (fun u cl => ?_)
        rw [(q1 0 (by omega)).1, show P 0 + sDl (D 0) (L 0) md 0 - P 0 = sDl (D 0) (L 0) md 0 by omega]
        refine c97_a1 (M := z_w N 23 0 0 (P 0 + sDl (D 0) (L 0) md 0)) r0 okN (by show 1 ≤ mLn N 0; omega) (by show 0 ≤ N.1 18 0 23 ∧ N.1 18 0 23 ≤ 500; omega) (tq 1 (by omega)) (pr 1 (by omega)) (by show -99999 ≤ N.1 23 0 1 ∧ N.1 23 0 1 ≤ 99999; rw [(q1 1 (by omega)).1]; exact hPr 1 (by omega)) (fun u cl => ?_)
        rw [show (z_w N 23 0 0 (P 0 + sDl (D 0) (L 0) md 0)).1 23 0 1 = P 1 from (q1 1 (by omega)).1, show P 1 + sDl (D 0) (L 0) md 1 - P 1 = sDl (D 0) (L 0) md 1 by omega]
        refine c97_a2 (M := z_w (z_w N 23 0 0 (P 0 + sDl (D 0) (L 0) md 0)) 23 0 1 (P 1 + sDl (D 0) (L 0) md 1)) r1 okN (by show 1 ≤ mLn N 0; omega) (by show 0 ≤ N.1 18 0 23 ∧ N.1 18 0 23 ≤ 500; omega) (tq 2 (by omega)) (pr 2 (by omega)) (by show -99999 ≤ N.1 23 0 2 ∧ N.1 23 0 2 ≤ 99999; rw [(q1 2 (by omega)).1]; exact hPr 2 (by omega)) (fun u cl => ?_)
        rw [show (z_w (z_w N 23 0 0 (P 0 + sDl (D 0) (L 0) md 0)) 23 0 1 (P 1 + sDl (D 0) (L 0) md 1)).1 23 0 2 = P 2 from (q1 2 (by omega)).1, show P 2 + sDl (D 0) (L 0) md 2 - P 2 = sDl (D 0) (L 0) md 2 by omega]
        show zT 97 (85, [some (zR 18 0), some (zI (sBt (D 0) (L 0) md)), some (zI 3), u], [], _, cl) _
        have f4 : zfr p97 l97 M (z_w (z_w (z_w N 23 0 0 (P 0 + sDl (D 0) (L 0) md 0)) 23 0 1 (P 1 + sDl (D 0) (L 0) md 1)) 23 0 2 (P 2 + sDl (D 0) (L 0) md 2)) := ((f3.w 23 0 0 _ (by simp [p97, p96])).w 23 0 1 _ (by simp [p97, p96])).w 23 0 2 _ (by simp [p97, p96])
        have r4 : mRow (z_w (z_w (z_w N 23 0 0 (P 0 + sDl (D 0) (L 0) md 0)) 23 0 1 (P 1 + sDl (D 0) (L 0) md 1)) 23 0 2 (P 2 + sDl (D 0) (L 0) md 2)) n D L F := mRow_eq rfl (fun s => rfl) (fun s => rfl) (fun s => rfl) r3
        have okN4 : okM (z_w (z_w (z_w N 23 0 0 (P 0 + sDl (D 0) (L 0) md 0)) 23 0 1 (P 1 + sDl (D 0) (L 0) md 1)) 23 0 2 (P 2 + sDl (D 0) (L 0) md 2)) 0 := okN
        have p4 : ∀ q, q < 3 → (z_w (z_w (z_w N 23 0 0 (P 0 + sDl (D 0) (L 0) md 0)) 23 0 1 (P 1 + sDl (D 0) (L 0) md 1)) 23 0 2 (P 2 + sDl (D 0) (L 0) md 2)).1 23 0 q = P q + sDl (D 0) (L 0) md q ∧ (z_w (z_w (z_w N 23 0 0 (P 0 + sDl (D 0) (L 0) md 0)) 23 0 1 (P 1 + sDl (D 0) (L 0) md 1)) 23 0 2 (P 2 + sDl (D 0) (L 0) md 2)).1 24 0 q = G q := by
          intro q hq
          refine ⟨?_, (q1 q hq).2⟩
          rcases (show q = 0 ∨ q = 1 ∨ q = 2 by omega) with e | e | e <;> subst e <;> rfl
        have rs4 : mRs (z_w (z_w (z_w N 23 0 0 (P 0 + sDl (D 0) (L 0) md 0)) 23 0 1 (P 1 + sDl (D 0) (L 0) md 1)) 23 0 2 (P 2 + sDl (D 0) (L 0) md 2)) (fun q => P q + sDl (D 0) (L 0) md q) G hd 0 cu en sl tl := ⟨p4, q2, q3, q4, q5, q6, q7⟩
        have eL4 : mLn (z_w (z_w (z_w N 23 0 0 (P 0 + sDl (D 0) (L 0) md 0)) 23 0 1 (P 1 + sDl (D 0) (L 0) md 1)) 23 0 2 (P 2 + sDl (D 0) (L 0) md 2)) 0 = L 0 := eL
        have eF4 : mF (z_w (z_w (z_w N 23 0 0 (P 0 + sDl (D 0) (L 0) md 0)) 23 0 1 (P 1 + sDl (D 0) (L 0) md 1)) 23 0 2 (P 2 + sDl (D 0) (L 0) md 2)) 0 = F 0 := (r4.2.2.2 0 (by omega)).1
        have g4' : ∀ q, q < 3 → (z_w (z_w (z_w N 23 0 0 (P 0 + sDl (D 0) (L 0) md 0)) 23 0 1 (P 1 + sDl (D 0) (L 0) md 1)) 23 0 2 (P 2 + sDl (D 0) (L 0) md 2)).1 29 0 q = P q + sDl (D 0) (L 0) md q - sAf (D 0 q) (L 0) (md + 1) := by
          intro q hq
          show N.1 29 0 q = _
          rw [g29 q hq]; unfold sDl; omega
        have m4 : (z_w (z_w (z_w N 23 0 0 (P 0 + sDl (D 0) (L 0) md 0)) 23 0 1 (P 1 + sDl (D 0) (L 0) md 1)) 23 0 2 (P 2 + sDl (D 0) (L 0) md 2)).1 18 0 23 = md + 1 := m3
        have t4 : (z_w (z_w (z_w N 23 0 0 (P 0 + sDl (D 0) (L 0) md 0)) 23 0 1 (P 1 + sDl (D 0) (L 0) md 1)) 23 0 2 (P 2 + sDl (D 0) (L 0) md 2)).1 18 0 31 = 1 := t3
        have a4 : (z_w (z_w (z_w N 23 0 0 (P 0 + sDl (D 0) (L 0) md 0)) 23 0 1 (P 1 + sDl (D 0) (L 0) md 1)) 23 0 2 (P 2 + sDl (D 0) (L 0) md 2)).1 18 0 0 = a := a3
        have w4' : (z_w (z_w (z_w N 23 0 0 (P 0 + sDl (D 0) (L 0) md 0)) 23 0 1 (P 1 + sDl (D 0) (L 0) md 1)) 23 0 2 (P 2 + sDl (D 0) (L 0) md 2)).1 18 0 19 = 1 := w3
        have e4 : (z_w (z_w (z_w N 23 0 0 (P 0 + sDl (D 0) (L 0) md 0)) 23 0 1 (P 1 + sDl (D 0) (L 0) md 1)) 23 0 2 (P 2 + sDl (D 0) (L 0) md 2)).2.1 18 0 20 = (e : Int) := e3
        have x4 : (z_w (z_w (z_w N 23 0 0 (P 0 + sDl (D 0) (L 0) md 0)) 23 0 1 (P 1 + sDl (D 0) (L 0) md 1)) 23 0 2 (P 2 + sDl (D 0) (L 0) md 2)).2.1 18 0 21 = (x : Int) := x3
        generalize z_w (z_w (z_w N 23 0 0 (P 0 + sDl (D 0) (L 0) md 0)) 23 0 1 (P 1 + sDl (D 0) (L 0) md 1)) 23 0 2 (P 2 + sDl (D 0) (L 0) md 2) = N4 at *
        refine g97_85a3 (c89 (i := 0) (by omega) okN4 ⟨_, rfl, fun _ => ?_⟩)
        rw [eL4, m4]
        refine ⟨by omega, fun k1 => ?_, fun k1 => ?_⟩
        · rw [if_neg (by omega)] at h
          refine g97_170 ⟨by show zr 0; decide, fun k2 => absurd rfl k2, fun _ => ?_⟩
          refine c96 (w0 := 1) (e := e) (md := md + 1) (wt := 0) (M := z_w N4 18 0 24 0) (mRow_eq rfl (fun s => rfl) (fun s => rfl) (fun s => rfl) r4) i3 j1 a4 i1 x4 j3 (mRs_eq rfl rfl rfl rfl rfl (fun s => rfl) (fun s => rfl) (fun s => rfl) rs4) i6 i8 (by omega) (fun M5 f5 s5 => ⟨rfl, fun _ => ⟨rfl, ?_⟩⟩)
          exact h M5 ((f4.w 18 0 24 _ (by simp [p97, p96])).trans (f5.mono p96_97 (fun _ _ hp => hp))) s5 (by rw [f5.1 18 0 31 (by simp [p96])]; exact t4)
        · rw [if_pos (by omega)] at h
          refine c92 okN4 (by rw [eF4]; omega) (by rw [a4]; exact i1) (by rw [m4, eL4]; omega) (by rw [e4]; omega) (by rw [x4]; omega) ⟨_, rfl, fun _ => ?_⟩
          rw [eF4, eL4, m4, a4, e4, x4, show md + 1 + 1 = md + 2 by omega]
          have hbw : dl (sSq (F 0 * F 0) e x a (L 0) (md + 2)) = bWt a (L 0) (F 0) e x (md + 2) := by rw [bWt, if_neg hF]
          have hbr := bWt_r (e := e) (x := x) hb0 i1 (k := md + 2) (by omega)
          rw [hbw]
          refine g97_170 ⟨by rw [z_w_get_eq]; omega, fun _ => ⟨rfl, ?_⟩, fun k2 => by rw [z_w_get_eq] at k2; omega⟩
          exact h _ (f4.w 18 0 24 _ (by simp [p97, p96])) ⟨mRow_eq rfl (fun s => rfl) (fun s => rfl) (fun s => rfl) r4, a4, ⟨w4', fun _ => ⟨e4, x4, m4, rfl, g4'⟩⟩, mRs_eq rfl rfl rfl rfl rfl (fun s => rfl) (fun s => rfl) (fun s => rfl) rs4⟩ t4
  -- its beginning
  obtain ⟨n, ⟨D, L, F⟩, ⟨w, e, x, md, wt⟩, ⟨P, G⟩, ⟨hd, of, cu⟩, ⟨en, sl⟩, tl⟩ := s
  have hs' := hs
  obtain ⟨r, ha, ⟨w4, wk1⟩, hrs⟩ := hs'
  obtain ⟨i1, i2, i3, ⟨i41, i42⟩, i5, i6, i7, i8, i9, i10, i11⟩ := hi
  have f0 : zfr p97 l97 M (z_w M 18 0 31 0) := (zfr.refl _ _ _).w 18 0 31 _ (by simp [p97, p96])
  have r0 : mRow (z_w M 18 0 31 0) n D L F := mRow_eq rfl (fun s => rfl) (fun s => rfl) (fun s => rfl) r
  have rs0 : mRs (z_w M 18 0 31 0) P G hd of cu en sl tl := mRs_eq rfl rfl rfl rfl rfl (fun s => rfl) (fun s => rfl) (fun s => rfl) hrs
  have s0 : mS (z_w M 18 0 31 0) a (n, (D, L, F), (w, e, x, md, wt), (P, G), (hd, of, cu), (en, sl), tl) := ⟨r0, ha, ⟨w4, wk1⟩, rs0⟩
  simp only [beg] at rest
  refine g97_0 ?_
  rw [w4, hrs.2.1, r.1]
  refine ⟨by omega, fun c => ?_, fun c => ⟨by omega, fun c2 => ?_, fun c2 => ⟨by omega, fun c3 => ?_, fun c3 => ?_⟩⟩⟩
  · rw [if_neg (fun q => c q.1)] at rest
    exact rest _ _ _ _ _ f0 s0 rfl
  · rw [if_neg (fun q => c2 q.2.1)] at rest
    exact rest _ _ _ _ _ f0 s0 rfl
  · rw [if_neg (fun q => by omega)] at rest
    exact rest _ _ _ _ _ f0 s0 rfl
  · rw [if_pos ⟨c, c2, by omega⟩] at rest
    refine c93 (g := 0) (P := P) r0 i3 ha i1 (by omega) (by omega) (fun q hq => (rs0.1 q hq).1) (fun M1 f1 wk => ⟨rfl, fun _ => ?_⟩)
    have k2 : ∀ k, ¬ k = 18 → ¬ k = 29 → ∀ j s, M1.1 k j s = (z_w M 18 0 31 0).1 k j s := fun k h1 h2 j s => f1.1 k j s (by simp [p93, h1, h2])
    have k18 : ∀ s, ¬ s = 19 → ¬ s = 23 → ¬ s = 24 → M1.1 18 0 s = (z_w M 18 0 31 0).1 18 0 s := fun s h1 h2 h3 => f1.1 18 0 s (by simp [p93, h1, h2, h3])
    refine rest _ _ _ _ _ (f0.trans (f1.mono (fun k s hp => p96_97 k s (p93_96 k s hp)) (fun _ _ hp => hp))) ⟨mRow_eq (k18 15 (by omega) (by omega) (by omega)) (fun s => k2 26 (by omega) (by omega) _ _) (fun s => k2 27 (by omega) (by omega) _ _) (fun s => k2 28 (by omega) (by omega) _ _) r0, by rw [k18 0 (by omega) (by omega) (by omega)]; exact ha, wk, mRs_eq (k18 25 (by omega) (by omega) (by omega)) (k18 26 (by omega) (by omega) (by omega)) (k18 28 (by omega) (by omega) (by omega)) (k18 29 (by omega) (by omega) (by omega)) (k18 2 (by omega) (by omega) (by omega)) (fun s => k2 23 (by omega) (by omega) _ _) (fun s => k2 24 (by omega) (by omega) _ _) (fun s => k2 30 (by omega) (by omega) _ _) rs0⟩ (by rw [k18 31 (by omega) (by omega) (by omega)]; rfl)
