-- The law's cases: power, resume. (own work)
def aMk (s : aS) : Int := if aSl s 7 ≤ aSl s 3 then aSl s 3 else aSl s 7
theorem lw728 {M : zM} {K x4 : Int} {u5 u6 : Option zV} {cl : Bool} {Q : zQ} (hI : iI M K) (hK : K + 1 ≤ 10000) (nx : lwN M K x4 Q) : zT 145 (728, [some (zR 32 0), some (zR 0 0), some (zR 18 0), some (zR 31 0), some (zI x4), u5, u6], [], M, cl) Q := by
  have hI' := hI
  obtain ⟨a, s, q, T, i1, i2, i3, i4, i5, i6, i7, i8, i9, i10⟩ := hI'
  have ho := iS_of i1
  have e9 := cS_9 i3
  have e26 := mS_26 i4
  obtain ⟨en, hsl, hen⟩ := iS_sl i1
  have hr := iSl_r hsl hen
  have c3 := cS_sl i3 3 (by omega); have c7 := cS_sl i3 7 (by omega)
  have m3 := mS_sl i4 3 (by omega); have m7 := mS_sl i4 7 (by omega)
  have r3 := hr 3 (by omega); have r7 := hr 7 (by omega)
  refine g145_728_32 (g132_0 (g131_0 ?_))
  rw [e9]
  refine ⟨by omega, fun c => ?_, fun c => ⟨rfl, rfl, 1, rfl, _, rfl, fun _ => ?_⟩⟩
  rotate_left
  · exact g134_0 ⟨by omega, fun _ => ⟨rfl, rfl, fun _ => c64 ⟨_, rfl, fun _ => tlB rfl (by show zr 1; decide) (nx _ 1 _ _ _ (iI_code hI hK) (sSc_code _ _) (by omega))⟩⟩, fun c2 => by omega⟩
  · refine c130 (by show zr (M.1 13 0 3); omega) (by show zr (M.1 13 0 7); omega) ⟨rfl, fun _ => ⟨rfl, rfl, fun _ => ⟨_, rfl, fun _ => ?_⟩⟩⟩
    have eC : nwC (z_w (z_w (z_w (z_w (z_w (z_w (z_w (z_w (z_w (z_w (z_w (z_w (z_w (z_w M 0 0 9 1) 0 0 10 1) 0 0 12 0) 0 0 13 100) 0 0 14 0) 14 0 0 0) 15 0 0 0) 16 0 0 0) 14 0 1 0) 15 0 1 0) 16 0 1 0) 14 0 2 0) 15 0 2 0) 16 0 2 0) = if aSl s 7 ≤ aSl s 3 then 0 else 1 := by
      show (if M.1 13 0 7 ≤ M.1 13 0 3 then 0 else 1) = _
      rw [c3, c7]
    have eV : (z_w (z_w (z_w (z_w (z_w (z_w (z_w (z_w (z_w (z_w (z_w (z_w (z_w (z_w M 0 0 9 1) 0 0 10 1) 0 0 12 0) 0 0 13 100) 0 0 14 0) 14 0 0 0) 15 0 0 0) 16 0 0 0) 14 0 1 0) 15 0 1 0) 16 0 1 0) 14 0 2 0) 15 0 2 0) 16 0 2 0).1 13 0 ((if aSl s 7 ≤ aSl s 3 then 0 else 1) * 4 + 3) = aMk s := by
      show M.1 13 0 _ = _
      unfold aMk
      by_cases z : aSl s 7 ≤ aSl s 3
      · rw [if_pos z, if_pos z]; exact c3
      · rw [if_neg z, if_neg z]; exact c7
    rw [eC, eV]
    refine g134_0 ⟨by show zr (M.1 18 0 26); omega, fun c2 => ?_, fun c2 => c133 (by show zr (M.1 30 0 3); omega) (by show zr (M.1 30 0 7); omega) ⟨_, rfl, fun _ => ?_⟩⟩
    · have c2' : M.1 18 0 26 = 0 := c2
      omega
    · have eM : ∀ N : zM, N.1 30 0 3 = aSl s 3 → N.1 30 0 7 = aSl s 7 → z_wi (4 * (nwM N : Int) + 3) 8 ∧ N.1 30 0 (4 * (nwM N : Int) + 3).toNat = aMk s := by
        intro N h1 h2
        unfold nwM aMk
        rw [h1, h2]
        by_cases z : aSl s 3 ≤ aSl s 7
        · rw [if_pos z]
          refine ⟨by omega, ?_⟩
          rw [show (4 * ((1 : Nat) : Int) + 3).toNat = 7 by decide, h2]
          split <;> omega
        · rw [if_neg z]
          refine ⟨by omega, ?_⟩
          rw [show (4 * ((0 : Nat) : Int) + 3).toNat = 3 by decide, h1, if_pos (by omega)]
      have h30 := eM _ (show (z_w (z_w (z_w (z_w (z_w (z_w (z_w (z_w (z_w (z_w (z_w (z_w (z_w (z_w (z_w (z_w (z_w (z_w (z_w (z_w (z_w (z_w (z_w (z_w (z_w (z_w (z_w (z_w (z_w (z_w M 0 0 9 1) 0 0 10 1) 0 0 12 0) 0 0 13 100) 0 0 14 0) 14 0 0 0) 15 0 0 0) 16 0 0 0) 14 0 1 0) 15 0 1 0) 16 0 1 0) 14 0 2 0) 15 0 2 0) 16 0 2 0) 12 0 1 (aMk s)) 18 0 1 0) 18 0 26 0) 18 0 27 1) 18 0 8 0) 18 0 9 0) 18 0 10 100) 22 0 0 0) 23 0 0 0) 24 0 0 0) 22 0 1 0) 23 0 1 0) 24 0 1 0) 22 0 2 0) 23 0 2 0) 24 0 2 0).1 30 0 3 = aSl s 3 from m3) m7
      rw [h30.2]
      refine ⟨h30.1, rfl, rfl, fun _ => c64 ⟨_, rfl, fun _ => tlB rfl (by show zr 0; decide) (nx _ 0 _ _ _ ?_ ⟨rfl, fun _ => rfl⟩ (by omega))⟩⟩
      have hmk : iSl (aMk s) (aSl s) ∧ 0 ≤ aMk s ∧ aMk s ≤ en := by
        obtain ⟨h1, h2, h3⟩ := hsl
        unfold aMk
        split
        · exact ⟨⟨h1, by omega, by omega⟩, by omega, by omega⟩
        · exact ⟨⟨h1, by omega, by omega⟩, by omega, by omega⟩
      obtain ⟨n, ⟨D, L, F⟩, ⟨w, e, x, md, wt⟩, ⟨P, G⟩, ⟨hd, of, cu⟩, ⟨en', sl⟩, tl⟩ := s
      obtain ⟨wn, sp, df, Z, lo⟩ := q
      obtain ⟨j1, j2, j3, j4, j5, j6, j7, j8, j9, j10, j11⟩ := iS_up i1 hK
      obtain ⟨d1, d2, d3, d4, d5, d6, d7, d8, d9, d10⟩ := i3
      obtain ⟨k1, k2, k3, k4, k5, k6, k7, k8, k9, k10⟩ := i4
      have h1 : of = 1 := by
        have : 1 - of = 0 := c
        omega
      have hn := j9 h1
      have hw : w = 0 := by
        rcases j4.1 with z | z
        · exact z
        · have := (j4.2 z).1; omega
      subst hw
      have hmk' : aMk (n, (D, L, F), (0, e, x, md, wt), (P, G), (hd, of, cu), (en', sl), tl) = (if sl 7 ≤ sl 3 then sl 3 else sl 7) := rfl
      rw [hmk'] at hmk ⊢
      refine ⟨a, (n, (D, L, F), (0, e, x, md, wt), (fun _ => 0, fun _ => 0), (hd, 0, cu), (if sl 7 ≤ sl 3 then sl 3 else sl 7, sl), tl), (0, 100, 0, fun _ => 0, 1), T, ⟨j1, j2, j3, j4, fun q hq => ?_, j6, Or.inl rfl, j8, fun z => absurd z (by decide), hmk.1, ?_⟩, ⟨by omega, by omega, Or.inl rfl, fun q hq => by dsimp only; omega, Or.inr rfl⟩, ⟨d1, d2, d3, fun q hq => ?_, d5, rfl, d7, rfl, d9, d10⟩, ⟨k1, k2, ⟨k3.1, fun z => absurd z (by decide)⟩, fun q hq => ?_, k5, rfl, k7, rfl, k9, k10⟩, ⟨rfl, rfl, rfl, fun q hq => ?_, rfl⟩, ⟨rfl, rfl, rfl, fun q hq => ?_, rfl⟩, i7, i8, i9, fun _ => hn⟩
      · unfold bsA
        rw [if_neg (by decide)]
        subst hn
        refine ⟨fun i hi => ?_, by simp only [sD]; omega⟩
        obtain rfl : i = 0 := by omega
        simp only [sD]; omega
      · have h4 := hmk.2
        have h5 := iSl_r hsl hen
        obtain ⟨g1, g2, g3⟩ := j10
        refine ⟨h4.1, ?_, j11.2.2⟩
        split <;> omega
      · rcases (show q = 0 ∨ q = 1 ∨ q = 2 by omega) with z | z | z <;> subst z <;> exact ⟨rfl, rfl⟩
      · rcases (show q = 0 ∨ q = 1 ∨ q = 2 by omega) with z | z | z <;> subst z <;> exact ⟨rfl, rfl⟩
      · rcases (show q = 0 ∨ q = 1 ∨ q = 2 by omega) with z | z | z <;> subst z <;> rfl
      · rcases (show q = 0 ∨ q = 1 ∨ q = 2 by omega) with z | z | z <;> subst z <;> rfl
theorem c128x {M : zM} {s k : Nat} {R : Option zV → zM → Bool → Prop} {T : Nat → zM → Prop} (hs : s < 2) (hk : k < 4) (h : R (some (zI (M.1 13 0 (s * 4 + k)))) M true) : zX 128 [zR 12 0, zI s, zI k] M R T := by
  refine g128_0 ?_
  rw [show ((s : Int) * 4 + (k : Int)).toNat = s * 4 + k by omega]
  exact ⟨by omega, rfl, h⟩
theorem c129x {M : zM} {R : Option zV → zM → Bool → Prop} {T : Nat → zM → Prop} (h3 : zr (M.1 13 0 3)) (h7 : zr (M.1 13 0 7)) (h : R (some (zI (nwC M))) M true) : zX 129 [zR 12 0] M R T := by
  refine g129_0x (c128x (s := 1) (k := 3) (by omega) (by omega) ⟨rfl, _, rfl, c128x (s := 0) (k := 3) (by omega) (by omega) ⟨rfl, _, rfl, ⟨h7, h3⟩, fun c => ⟨rfl, ?_⟩, fun c => ⟨rfl, ?_⟩⟩⟩)
  · have e : nwC M = 0 := if_pos c
    rw [e] at h; exact h
  · have e : nwC M = 1 := if_neg c
    rw [e] at h; exact h
theorem lw776 {M : zM} {K x4 : Int} {u5 u6 : Option zV} {cl : Bool} {Q : zQ} (hI : iI M K) (hK : K + 1 ≤ 10000) (nx : lwN M K x4 Q) : zT 145 (776, [some (zR 32 0), some (zR 0 0), some (zR 18 0), some (zR 31 0), some (zI x4), u5, u6], [], M, cl) Q := by
  have hI' := hI
  obtain ⟨a, s, q, T, i1, i2, i3, i4, i5, i6, i7, i8, i9, i10⟩ := hI'
  have ho := iS_of i1
  have hlo := iQ_lo i2
  have e9 := cS_9 i3
  have e26 := mS_26 i4
  have e27 := mQ_27 i6
  have e10 := cQ_10 i5
  obtain ⟨en, hsl, hen⟩ := iS_sl i1
  have hr := iSl_r hsl hen
  have cs := cS_sl i3
  have ms := mS_sl i4
  have c3 := cs 3 (by omega); have c7 := cs 7 (by omega)
  have m3 := ms 3 (by omega); have m7 := ms 7 (by omega)
  have r3 := hr 3 (by omega); have r7 := hr 7 (by omega)
  have hC : nwC M = if aSl s 7 ≤ aSl s 3 then 0 else 1 := by unfold nwC; rw [c3, c7]
  have hM : nwM M = if aSl s 3 ≤ aSl s 7 then 1 else 0 := by unfold nwM; rw [m3, m7]
  have hC2 := nwC_lt M
  have hM2 := nwM_lt M
  have mk : M.1 13 0 (nwC M * 4 + 3) = M.1 30 0 (4 * nwM M + 3) ∧ (¬ M.1 13 0 (nwC M * 4 + 3) = 0 → nwC M = nwM M) := by
    obtain ⟨h1, h2, h3⟩ := hsl
    rw [hC, hM]
    by_cases z1 : aSl s 7 ≤ aSl s 3
    · by_cases z2 : aSl s 3 ≤ aSl s 7
      · rw [if_pos z1, if_pos z2]
        refine ⟨by show M.1 13 0 3 = M.1 30 0 7; rw [c3, m7]; omega, fun z => ?_⟩
        have z' : ¬ M.1 13 0 3 = 0 := z
        rw [c3] at z'
        omega
      · rw [if_pos z1, if_neg z2]
        exact ⟨by show M.1 13 0 3 = M.1 30 0 3; rw [c3, m3], fun _ => rfl⟩
    · rw [if_neg z1, if_pos (by omega)]
      exact ⟨by show M.1 13 0 7 = M.1 30 0 7; rw [c7, m7], fun _ => rfl⟩
  have mr := hr (nwC M * 4 + 3) (by omega)
  have ec := cs (nwC M * 4 + 3) (by omega)
  have t3 : (4 * (nwM M : Int) + 3).toNat = 4 * nwM M + 3 := by omega
  have t0 : (4 * (nwM M : Int) + 0).toNat = 4 * nwM M + 0 := by omega
  have t1 : (4 * (nwM M : Int) + 1).toNat = 4 * nwM M + 1 := by omega
  have t2 : (4 * (nwM M : Int) + 2).toNat = 4 * nwM M + 2 := by omega
  refine g145_776_32 (g140_0 (g139_0 (c135 (by omega) (by omega) (fun c1 c2 => ⟨rfl, rfl, c129x (by omega) (by omega) ⟨rfl, _, rfl, c128x (k := 3) hC2 (by omega) ⟨rfl, _, rfl, by omega, fun c4 => c128x (k := 0) hC2 (by omega) ⟨rfl, _, rfl, ?_⟩, fun c4 => ⟨rfl, rfl, 2, rfl, _, rfl, fun _ => ?_⟩⟩⟩⟩) (fun c => ⟨rfl, rfl, 1, rfl, _, rfl, fun _ => ?_⟩))))
  · -- it goes on
    have hb := mk.2 c4
    refine c128 (M := z_w M 14 0 0 (M.1 13 0 (nwC M * 4 + 0))) (k := 1) hC2 (by omega) ⟨_, rfl, fun _ => c128 (M := z_w (z_w M 14 0 0 (M.1 13 0 (nwC M * 4 + 0))) 14 0 1 (M.1 13 0 (nwC M * 4 + 1))) (k := 2) hC2 (by omega) ⟨_, rfl, fun _ => c40a (M := z_w (z_w (z_w M 14 0 0 (M.1 13 0 (nwC M * 4 + 0))) 14 0 1 (M.1 13 0 (nwC M * 4 + 1))) 14 0 2 (M.1 13 0 (nwC M * 4 + 2))) ⟨rfl, fun _ => ⟨rfl, _, rfl, fun _ => ⟨by omega, _, rfl, fun _ => ?_⟩⟩⟩⟩⟩
    have mk1 := mk.1
    generalize hv : M.1 13 0 (nwC M * 4 + 3) = mv at *
    have eN : ∀ N : zM, (∀ k, N.1 30 0 k = M.1 30 0 k) → nwM N = nwM M := fun N h => by unfold nwM; rw [h, h]
    have key : ∀ NB : zM, (∀ k, NB.1 30 0 k = M.1 30 0 k) → NB.1 18 0 26 = M.1 18 0 26 → NB.1 18 0 27 = M.1 18 0 27 → NB.2.1 31 0 0 = mv → sSc M NB →
        iI (z_w (z_w (z_w (z_w (z_w (z_w (z_w (z_w NB 18 0 1 0) 18 0 27 0) 23 0 0 (M.1 30 0 (4 * nwM M + 0))) 24 0 0 (M.1 30 0 (4 * nwM M + 0))) 23 0 1 (M.1 30 0 (4 * nwM M + 1))) 24 0 1 (M.1 30 0 (4 * nwM M + 1))) 23 0 2 (M.1 30 0 (4 * nwM M + 2))) 24 0 2 (M.1 30 0 (4 * nwM M + 2))) (K + 1) → zF 141 [zR 18 0] NB (lwP x4 Q 0 0) := by
      intro NB h30 h26 h27 ho hsc hres
      refine g141_0 (c133 (by rw [h30]; omega) (by rw [h30]; omega) ⟨_, rfl, fun _ => ?_⟩)
      rw [eN NB h30, t3, t0, t1, t2, h30, h30, h30, h30, h26, h27, ← mk1]
      refine ⟨by omega, fun z => by omega, fun z => ⟨by omega, fun z2 => ⟨by omega, by omega, fun z3 => ⟨by omega, by omega, by omega, by omega, rfl, _, rfl, fun _ => c64 ⟨_, rfl, fun _ => tlA rfl (by show zr 0; decide) (fun _ => ⟨by omega, ho⟩) (nx _ 0 _ _ _ hres (hsc.trans ⟨rfl, fun _ => rfl⟩) (by omega))⟩⟩, fun z3 => absurd z3 c4⟩, fun z2 => by omega⟩⟩
    refine key _ (fun k => rfl) rfl rfl rfl ⟨rfl, fun _ => rfl⟩ ?_
    · have hlo1 : q.2.2.2.2 = 1 := by omega
      have hn := i10 hlo1
      have sb : ∀ k, k < 3 → -99999 ≤ aSl s (nwC M * 4 + k) ∧ aSl s (nwC M * 4 + k) ≤ 99999 := fun k hk => hr _ (by omega)
      have q13 : ∀ k, k < 3 → M.1 13 0 (nwC M * 4 + k) = aSl s (nwC M * 4 + k) := fun k hk => cs _ (by omega)
      have q30 : ∀ k, k < 3 → M.1 30 0 (4 * nwM M + k) = aSl s (nwC M * 4 + k) := fun k hk => by
        rw [ms _ (by omega), hb, Nat.mul_comm]
      generalize nwC M = b at *
      generalize nwM M = b2 at *
      obtain ⟨n, ⟨D, L, F⟩, ⟨w, e, x, md, wt⟩, ⟨P, G⟩, ⟨hd, of, cu⟩, ⟨en', sl⟩, tl⟩ := s
      obtain ⟨wn, sp, df, Z, lo⟩ := q
      obtain ⟨j1, j2, j3, j4, j5, j6, j7, j8, j9, j10, j11⟩ := iS_up i1 hK
      obtain ⟨d1, d2, d3, d4, d5, d6, d7, d8, d9, d10⟩ := i3
      obtain ⟨k1, k2, k3, k4, k5, k6, k7, k8, k9, k10⟩ := i4
      obtain ⟨v1, v2, v3, v4, v5⟩ := i2
      obtain ⟨p1, p2, p3, p4, p5⟩ := i5
      obtain ⟨s1, s2, s3, s4, s5⟩ := i6
      have hn0 : n = 0 := hn
      have hw : w = 0 := by
        rcases j4.1 with z | z
        · exact z
        · have := (j4.2 z).1; omega
      subst hw
      refine ⟨a, (n, (D, L, F), (0, e, x, md, wt), (fun k => sl (b * 4 + k), fun k => sl (b * 4 + k)), (hd, of, cu), (en', sl), tl), (wn, sp, df, Z, 0), T, ⟨j1, j2, j3, j4, fun q hq => ?_, j6, j7, j8, j9, j10, j11⟩, ⟨v1, v2, v3, v4, Or.inl rfl⟩, ⟨d1, d2, d3, fun q hq => ?_, d5, d6, d7, d8, d9, d10⟩, ⟨k1, k2, ⟨k3.1, fun z => absurd z (by decide)⟩, fun q hq => ?_, k5, k6, k7, k8, k9, k10⟩, ⟨p1, p2, p3, p4, rfl⟩, ⟨s1, s2, s3, s4, rfl⟩, i7, i8, i9, fun _ => hn0⟩
      · unfold bsA
        rw [if_neg (by decide)]
        subst hn0
        have h1 := sb q hq
        have h2 : aSl (0, (D, L, F), (0, e, x, md, wt), (P, G), (hd, of, cu), (en', sl), tl) (b * 4 + q) = sl (b * 4 + q) := rfl
        rw [h2] at h1
        refine ⟨fun i hi => ?_, by simp only [sD]; omega⟩
        obtain rfl : i = 0 := by omega
        simp only [sD]; omega
      · have h1 := q13 q hq
        rcases (show q = 0 ∨ q = 1 ∨ q = 2 by omega) with z | z | z <;> subst z <;> exact ⟨h1, h1⟩
      · have h1 := q30 q hq
        rcases (show q = 0 ∨ q = 1 ∨ q = 2 by omega) with z | z | z <;> subst z <;> exact ⟨h1, h1⟩
  · -- both slots are empty
    have mk1 := mk.1
    refine g141_0 (c133 (by omega) (by omega) ⟨_, rfl, fun _ => ?_⟩)
    rw [t3, ← mk1, c4]
    exact ⟨by omega, fun z => by omega, fun z => ⟨by omega, fun z2 => ⟨by omega, by decide, fun z3 => absurd rfl z3, fun _ => ⟨rfl, lwP_t hI hK (by decide) (by decide) nx⟩⟩, fun z2 => by omega⟩⟩
  · refine g141_0 (c133 (by omega) (by omega) ⟨_, rfl, fun _ => ?_⟩)
    exact ⟨by omega, fun z => ⟨rfl, lwP_t hI hK (by decide) (by decide) nx⟩, fun z => ⟨by omega, fun z2 => by omega, fun z2 => ⟨rfl, lwP_t hI hK (by decide) (by decide) nx⟩⟩⟩
-- the loop
theorem lw_loop {N : Nat} (hN : N ≤ 1537) : ∀ (f : Nat) (M : zM) (K x4 : Int) (u5 u6 : Option zV) (cl : Bool), M.2.2 = N → (∀ i, zr (M.1 32 0 i)) → iI M K → K + f ≤ 10000 → 0 ≤ x4 → x4 ≤ (N : Int) + 3 → (N : Int) - 2 - x4 ≤ 3 * (f : Int) → zT 145 (33, [some (zR 32 0), some (zR 0 0), some (zR 18 0), some (zR 31 0), some (zI x4), u5, u6], [], M, cl) (fun o _ _ e => o = .inl (some (zI 1)) ∧ e ≤ f) := by
  intro f
  induction f with
  | zero =>
    intro M K x4 u5 u6 cl hM hz hI hK h0 h3 hf
    refine g145_33_32 ?_
    rw [hM]
    have e : Int.ofNat N = (N : Int) := rfl
    rw [e]
    exact ⟨by omega, fun _ => ⟨rfl, Nat.le_refl _⟩, fun c => by omega⟩
  | succ f ih =>
    intro M K x4 u5 u6 cl hM hz hI hK h0 h3 hf
    have hK1 : K + 1 ≤ 10000 := by omega
    have e : Int.ofNat N = (N : Int) := rfl
    by_cases c : (N : Int) - 3 < x4
    · refine g145_33_32 ?_
      rw [hM, e]
      exact ⟨by omega, fun _ => ⟨rfl, by omega⟩, fun c2 => absurd c c2⟩
    · have hx : lwX M x4 := ⟨by rw [hM]; omega, hz⟩
      have nx : lwN M K x4 (fun o _ _ e => o = .inl (some (zI 1)) ∧ e ≤ f + 1) := by
        intro M' d u5 u6 cl hI' hs hd
        have h1 := ih M' (K + 1) (x4 + 3) u5 u6 cl (by rw [hs.1, hM]) (fun i => by rw [hs.2]; exact hz i) hI' (by omega) (by omega) (by omega) (by omega)
        exact zT.mono h1 (fun o m c e h => ⟨h.1, by have := h.2; omega⟩)
      refine g145_33_32 ?_
      have hz1 := hz x4.toNat
      have hx' := hx.1
      rw [show (Int.ofNat M.2.2 : Int) = (N : Int) by rw [hM]; rfl]
      refine ⟨by omega, fun c2 => absurd c2 c, fun _ => ⟨by omega, by omega, fun _ => lw136 hI hK1 hx nx, fun _ => lw193 hI hK1 nx, fun _ => lw206 hI hK1 nx, fun _ => lw250 hI hK1 nx, fun _ => lw263 hI hK1 nx, fun _ => lw307 hI hK1 hx nx, fun _ => lw363 hI hK1 hx nx, fun _ => lw419 hI hK1 hx nx, fun _ => lw475 hI hK1 nx, fun _ => lw488 hI hK1 hx nx, fun _ => lw556 hI hK1 nx, fun _ => lw569 hI hK1 hx nx, fun _ => lw648 hI hK1 nx, fun _ => lw692 hI hK1 hx nx, fun _ => lw728 hI hK1 nx, fun _ => lw752 hI hK1 nx, fun _ => lw776 hI hK1 nx, fun _ => lw820 hI hK1 hx nx, fun _ _ _ _ _ _ _ _ _ _ _ _ _ _ _ _ _ _ => ?_⟩⟩
      refine lwN0 nx M _ _ _ ?_ ⟨rfl, fun _ => rfl⟩
      obtain ⟨a, s, q, T, i1, i2⟩ := hI
      exact ⟨a, s, q, T, iS_up i1 hK1, i2⟩
