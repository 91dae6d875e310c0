-- The law's cases: hold, stop, cut, power, home, resume. (own work)
theorem tlH {r7 r5 r6 o : Int} {Z Y1 Y2 Y' : Prop} (h75 : r7 = r5) (z5 : zr r5) (z6 : r5 = 0 → (r6 = 0 ∨ r6 = 1) ∧ o = r6) (hz : Z) : (zr r7 ∧ zr r5) ∧ ((r7 = r5 → (zr r5) ∧ ((¬ r5 = 0 → Z) ∧ (r5 = 0 → (zr r6) ∧ ((r6 = 0 → (zrl o ∧ zrl 0) ∧ ((o = 0 → Z) ∧ (¬ (o = 0) → Y1))) ∧ (¬ (r6 = 0) → (zrl o ∧ zrl 1) ∧ ((o = 1 → Z) ∧ (¬ (o = 1) → Y2))))))) ∧ (¬ (r7 = r5) → Y')) := by
  refine ⟨by omega, fun _ => ⟨z5, fun _ => hz, fun c => ?_⟩, fun c => absurd h75 c⟩
  have h6 := z6 c
  exact ⟨by omega, fun c1 => ⟨by omega, fun _ => hz, fun c2 => absurd (by omega) c2⟩, fun c1 => ⟨by omega, fun _ => hz, fun c2 => absurd (by omega) c2⟩⟩
def stH (b : Int) : aS → aS
  | (n, B, W, PG, (_, of, cu), r) => (n, B, W, PG, (b, of, cu), r)
def aH (s : aS) : Int := s.2.2.2.2.1.1
theorem iI_hold {M : zM} {K a b v : Int} {s : aS} {q : aQ} {T : Nat → Int} (h : iR M K a s q T) (hK : K + 1 ≤ 10000) (hb : b = 0 ∨ b = 1) : iI (z_w (z_w (z_wl (z_w M 0 0 11 b) 31 0 0 v) 18 0 1 0) 18 0 25 b) (K + 1) := by
  obtain ⟨i1, i2, i3, i4, i5, i6, i7, i8, i9, i10⟩ := h
  obtain ⟨n, ⟨D, L, F⟩, ⟨w, e, x, md, wt⟩, ⟨P, G⟩, ⟨hd, of, cu⟩, ⟨en, sl⟩, tl⟩ := s
  obtain ⟨wn, sp, df, Z, lo⟩ := q
  have i1' := iS_up i1 hK
  obtain ⟨j1, j2, j3, j4, j5, j6, j7⟩ := i1'
  obtain ⟨c1, c2, c3, c4, c5, c6, c7⟩ := i3
  obtain ⟨m1, m2, m3, m4, m5, m6⟩ := i4
  exact ⟨a, (n, (D, L, F), (w, e, x, md, wt), (P, G), (b, of, cu), (en, sl), tl), (wn, sp, df, Z, lo), T, ⟨j1, j2, j3, j4, j5, hb, j7⟩, i2, ⟨c1, c2, c3, c4, rfl, c6, c7⟩, ⟨m1, m2, m3, m4, rfl, m6⟩, i5, i6, i7, i8, i9, i10⟩
abbrev lwHP (x4 : Int) (Q : zQ) (d : Nat) (r5 : Int) : Option zV → zM → Prop := fun v M30 => ∃ r30 : Int, v = some (zI r30) ∧ ∀ cl30 : Bool, zF 64 [zR 18 0] M30 (fun v M31 => ∃ r31 : Int, v = some (zI r31) ∧ ∀ cl31 : Bool, (zr r31 ∧ zr r5) ∧ ((r31 = r5 → (zr r5) ∧ ((¬ r5 = 0 → zT 145 (33, [some (zR 32 0), some (zR 0 0), some (zR 18 0), some (zR 31 0), some (zI (x4 + 3)), some (zI r5), some (zI r30)], [], M31, cl31) (fun o m c e => Q o m c (d + e))) ∧ (r5 = 0 → (zr r30) ∧ ((r30 = 0 → (zrl (M31.2.1 31 0 0) ∧ zrl 0) ∧ (((M31.2.1 31 0 0) = 0 → zT 145 (33, [some (zR 32 0), some (zR 0 0), some (zR 18 0), some (zR 31 0), some (zI (x4 + 3)), some (zI r5), some (zI r30)], [], M31, cl31) (fun o m c e => Q o m c (d + e))) ∧ (¬ ((M31.2.1 31 0 0) = 0) → (fun o m c e => Q o m c (d + e)) (.inl (some (zI 0))) M31 cl31 0))) ∧ (¬ (r30 = 0) → (zrl (M31.2.1 31 0 0) ∧ zrl 1) ∧ (((M31.2.1 31 0 0) = 1 → zT 145 (33, [some (zR 32 0), some (zR 0 0), some (zR 18 0), some (zR 31 0), some (zI (x4 + 3)), some (zI r5), some (zI r30)], [], M31, cl31) (fun o m c e => Q o m c (d + e))) ∧ (¬ ((M31.2.1 31 0 0) = 1) → (fun o m c e => Q o m c (d + e)) (.inl (some (zI 0))) M31 cl31 0))))))) ∧ (¬ (r31 = r5) → (fun o m c e => Q o m c (d + e)) (.inl (some (zI 0))) M31 cl31 0)))
theorem lwH {M : zM} {K x4 b : Int} {Q : zQ} {R : Option zV → zM → Nat → Prop} (hI : iI M K) (hK : K + 1 ≤ 10000) (hb : b = 0 ∨ b = 1) (nx : lwN M K x4 Q)
    (h : ∀ (M' : zM) (d : Nat) (r5 : Int), sSc M M' → zF 121 [zR 18 0, zI b] M' (lwHP x4 Q d r5) → R (some (zI r5)) M' d) : zG 120 [zR 0 0, zI b, zR 31 0] M R := by
  have hI' := hI
  obtain ⟨a, s, q, T, hR⟩ := hI'
  have hR' := hR
  obtain ⟨i1, i2, i3, i4, i5, i6, i7, i8, i9, i10⟩ := hR'
  have ho := iS_of i1
  have e9 := cS_9 i3
  have e26 := mS_26 i4
  have e11 : M.1 0 0 11 = aH s ∧ M.1 18 0 25 = aH s ∧ (aH s = 0 ∨ aH s = 1) := by
    obtain ⟨n, ⟨D, L, F⟩, ⟨w, e, x, md, wt⟩, ⟨P, G⟩, ⟨hd, of, cu⟩, ⟨en, sl⟩, tl⟩ := s
    exact ⟨i3.2.2.2.2.1, i4.2.2.2.2.1, i1.2.2.2.2.2.1⟩
  have ok : aOf s = 0 → ∀ v : Int, v = (if b = aH s then 0 else 1) → R (some (zI 0)) (z_wl (z_w M 0 0 11 b) 31 0 0 v) 0 := by
    intro h0 v hv
    refine h _ 0 0 ⟨rfl, fun _ => rfl⟩ (g121_0 ?_)
    show zr (M.1 18 0 26) ∧ ((M.1 18 0 26 = 0 → (b = 0 ∨ b = 1) ∧ ((zr (M.1 18 0 25) ∧ zr b) ∧ ((M.1 18 0 25 = b → _) ∧ (¬ (M.1 18 0 25 = b) → _)))) ∧ (¬ (M.1 18 0 26 = 0) → _))
    rw [e11.2.1]
    refine ⟨by omega, fun _ => ⟨hb, by omega, fun c => ⟨rfl, _, rfl, fun _ => c64 ⟨_, rfl, fun _ => tlH rfl (by decide) (fun _ => ⟨Or.inl rfl, ?_⟩) (nx _ 0 _ _ _ (iI_hold hR hK hb) ⟨rfl, fun _ => rfl⟩ (by omega))⟩⟩, fun c => ⟨rfl, _, rfl, fun _ => c64 ⟨_, rfl, fun _ => tlH rfl (by decide) (fun _ => ⟨Or.inr rfl, ?_⟩) (nx _ 0 _ _ _ (iI_hold hR hK hb) ⟨rfl, fun _ => rfl⟩ (by omega))⟩⟩⟩, fun c => by omega⟩
    · show v = 0
      rw [hv, if_pos (by omega)]
    · show v = 1
      rw [hv, if_neg (by omega)]
  refine g120_0 (g119_0 ?_)
  rw [e9, e11.1]
  refine ⟨by omega, fun c => ⟨by omega, fun c2 => ⟨hb, rfl, _, rfl, fun _ => ⟨by omega, fun _ => ?_, fun q => absurd rfl q⟩⟩, fun c2 => ⟨hb, rfl, _, rfl, fun _ => ⟨by omega, fun q => absurd q (by decide), fun _ => ?_⟩⟩⟩, fun c => ⟨rfl, rfl, 1, rfl, ?_⟩⟩
  · exact ok (by omega) 0 (by rw [if_pos c2])
  · exact ok (by omega) 1 (by rw [if_neg c2])
  · refine h M 1 1 ⟨rfl, fun _ => rfl⟩ (g121_0 ⟨by omega, fun c2 => by omega, fun c2 => ⟨rfl, _, rfl, fun _ => c64 ⟨_, rfl, fun _ => tlH rfl (by decide) (fun q => absurd q (by decide)) (nx _ 1 _ _ _ (iI_code hI hK) (sSc_code _ _) (by omega))⟩⟩⟩)
theorem lw569 {M : zM} {K x4 : Int} {u5 u6 : Option zV} {cl : Bool} {Q : zQ} (hI : iI M K) (hK : K + 1 ≤ 10000) (hx : lwX M x4) (nx : lwN M K x4 Q) : zT 145 (569, [some (zR 32 0), some (zR 0 0), some (zR 18 0), some (zR 31 0), some (zI x4), u5, u6], [], M, cl) Q := by
  obtain ⟨⟨x1, x2, x3⟩, hz⟩ := hx
  have z1 := hz (x4 + 1).toNat
  refine g145_569_32 ⟨by omega, z1, fun c => lwH hI hK (Or.inl rfl) nx (fun M' d r5 hs hf => ⟨_, rfl, fun _ => ?_⟩), fun c => lwH hI hK (Or.inr rfl) nx (fun M' d r5 hs hf => ⟨_, rfl, fun _ => ?_⟩)⟩
  · rw [hs.1, hs.2]
    exact ⟨by omega, z1, fun _ => hf, fun c2 => absurd c c2⟩
  · rw [hs.1, hs.2]
    exact ⟨by omega, z1, fun c2 => absurd c2 c, fun _ => hf⟩
-- stop
theorem lw648 {M : zM} {K x4 : Int} {u5 u6 : Option zV} {cl : Bool} {Q : zQ} (hI : iI M K) (hK : K + 1 ≤ 10000) (nx : lwN M K x4 Q) : zT 145 (648, [some (zR 32 0), some (zR 0 0), some (zR 18 0), some (zR 31 0), some (zI x4), u5, u6], [], M, cl) Q := by
  have hI' := hI
  obtain ⟨a, s, q, T, i1, i2, i3, i4, i5, i6, i7, i8, i9, i10⟩ := hI'
  have ho := iS_of i1
  have hlo := iQ_lo i2
  have e9 := cS_9 i3
  have e26 := mS_26 i4
  have e27 := mQ_27 i6
  have e10 := cQ_10 i5
  have hn := cS_n i3
  have hn2 := mS_n i4
  have h8 := iS_n i1
  have hP := iS_aP i1
  refine g145_648_32 (g123_0 (g122_0 (c7 (by omega) (by omega) (fun c1 c2 => ⟨rfl, rfl, c80 ⟨_, rfl, fun _ => c40a ⟨rfl, fun _ => ⟨rfl, _, rfl, fun _ => ⟨by omega, _, rfl, fun _ => ?_⟩⟩⟩⟩⟩) (fun c => ⟨rfl, rfl, 1, rfl, _, rfl, fun _ => ?_⟩))))
  · refine g124_0 (c50 (M := z_wl (z_cp (z_w (z_w M 8 0 3 0) 8 0 4 0) 14 0 15 0) 31 0 0 (M.1 8 0 3)) (by show M.1 18 0 26 = 0 ∨ M.1 18 0 26 = 1; omega) (by show M.1 18 0 27 = 0 ∨ M.1 18 0 27 = 1; omega) (fun _ _ => ⟨_, rfl, fun _ => ⟨by omega, fun _ => ⟨rfl, _, rfl, fun _ => c64 ⟨_, rfl, fun _ => ?_⟩⟩, fun q => absurd q (by decide)⟩⟩) (fun q => ?_))
    · refine tlA rfl (by decide) (fun _ => ⟨?_, ?_⟩) (nx _ 0 _ _ _ ?_ ⟨rfl, fun _ => rfl⟩ (by omega))
      · show zr (M.1 18 0 15)
        omega
      · show M.1 8 0 3 = M.1 18 0 15
        omega
      · obtain ⟨n, ⟨D, L, F⟩, ⟨w, e, x, md, wt⟩, ⟨P, G⟩, ⟨hd, of, cu⟩, ⟨en, sl⟩, tl⟩ := s
        obtain ⟨wn, sp, df, Z, lo⟩ := q
        obtain ⟨j1, j2, j3, j4, j5, j6, j7, j8, j9, j10, j11⟩ := iS_up i1 hK
        obtain ⟨d1, d2, d3, d4, d5⟩ := i3
        obtain ⟨m1, m2, m3, m4, m5⟩ := i4
        refine ⟨a, (0, (D, L, F), (0, e, x, md, wt), (P, P), (hd, of, cu), (en, sl), tl), (wn, sp, df, Z, lo), T, ⟨j1, by omega, fun i hi => by omega, ⟨Or.inl rfl, fun q => absurd q (by decide)⟩, fun q hq => ?_, j6, j7, j8, fun _ => rfl, j10, by omega⟩, i2, ⟨⟨d1.1, rfl, by omega, fun i hi => by omega⟩, d2, ⟨rfl, fun _ i _ hi => by omega, fun q => absurd q (by decide)⟩, fun q hq => ⟨(d4 q hq).1, ?_⟩, d5⟩, ⟨⟨rfl, by omega, m1.2.2.1, fun i hi => by omega⟩, m2, ⟨rfl, fun q => absurd q (by decide)⟩, fun q hq => ⟨(m4 q hq).1, ?_⟩, m5⟩, i5, i6, i7, i8, i9, fun _ => rfl⟩
        · have h1 : -99999 ≤ P q ∧ P q ≤ 99999 := hP q hq
          unfold bsA
          rw [if_neg (by decide)]
          refine ⟨fun i hi => ?_, by simp only [sD]; omega⟩
          obtain rfl : i = 0 := by omega
          simp only [sD]; omega
        · have h1 := (d4 q hq).1
          rcases (show q = 0 ∨ q = 1 ∨ q = 2 by omega) with z | z | z <;> subst z <;> exact h1
        · have h1 := (m4 q hq).1
          rcases (show q = 0 ∨ q = 1 ∨ q = 2 by omega) with z | z | z <;> subst z <;> exact h1
    · have q' : M.1 18 0 26 = 1 ∨ M.1 18 0 27 = 1 := q
      omega
  · exact g124_0 (c50 (by omega) (by omega) (fun _ _ => by omega) (fun _ => ⟨_, rfl, fun _ => ⟨by omega, fun q => absurd rfl q, fun _ => ⟨rfl, lwP_t hI hK (by decide) (by decide) nx⟩⟩⟩))
-- cut
theorem lw692 {M : zM} {K x4 : Int} {u5 u6 : Option zV} {cl : Bool} {Q : zQ} (hI : iI M K) (hK : K + 1 ≤ 10000) (hx : lwX M x4) (nx : lwN M K x4 Q) : zT 145 (692, [some (zR 32 0), some (zR 0 0), some (zR 18 0), some (zR 31 0), some (zI x4), u5, u6], [], M, cl) Q := by
  have hI' := hI
  obtain ⟨a, s, q, T, i1, i2, i3, i4, i5, i6, i7, i8, i9, i10⟩ := hI'
  obtain ⟨⟨x1, x2, x3⟩, hz⟩ := hx
  have z1 := hz (x4 + 1).toNat
  have ho := iS_of i1
  have hlo := iQ_lo i2
  have e9 := cS_9 i3
  have e26 := mS_26 i4
  have e27 := mQ_27 i6
  have e10 := cQ_10 i5
  generalize hN : M.1 32 0 (x4 + 1).toNat = N at *
  have thr : ∀ r : Int, zr r → ∀ (u6 : Option zV) (v : Option zV), v = none → (v = none ∧ ∀ cl43 : Bool, zF 64 [zR 18 0] (z_w M 18 0 1 r) (fun v M44 => ∃ r44 : Int, v = some (zI r44) ∧ ∀ cl44 : Bool, (zr r44 ∧ zr r) ∧ ((r44 = r → zT 145 (33, [some (zR 32 0), some (zR 0 0), some (zR 18 0), some (zR 31 0), some (zI (x4 + 3)), some (zI r), u6], [], M44, cl44) (fun o m c e => Q o m c (1 + e))) ∧ (¬ (r44 = r) → (fun o m c e => Q o m c (1 + e)) (.inl (some (zI 0))) M44 cl44 0)))) :=
    fun r hr u6 v hv => ⟨hv, fun _ => c64 ⟨_, rfl, fun _ => tlB rfl hr (nx _ 1 _ _ _ (iI_code hI hK) (sSc_code _ _) (by omega))⟩⟩
  refine g145_692_32 ?_
  rw [hN]
  refine ⟨by omega, g126_0 (g125_0 ⟨by omega, fun c => ⟨rfl, rfl, 1, rfl, _, rfl, fun _ => ?_⟩, fun c => ⟨by omega, fun c2 => c7 (by omega) (by omega) (fun c3 c4 => ⟨rfl, rfl, rfl, rfl, fun _ => ⟨_, rfl, fun _ => ?_⟩⟩) (fun c3 => ⟨rfl, rfl, 2, rfl, _, rfl, fun _ => ?_⟩), fun c2 => ⟨rfl, rfl, 1, rfl, _, rfl, fun _ => ?_⟩⟩⟩)⟩
  · rw [hN]
    exact ⟨by omega, g127_0 ⟨by omega, fun _ => ⟨rfl, thr 1 (by decide) _ _ rfl⟩, fun c2 => by omega⟩⟩
  · rw [show (z_w M 0 0 15 N).1 32 0 (x4 + 1).toNat = N from hN]
    refine ⟨by show z_wi (x4 + 1) M.2.2; omega, g127_0 ⟨by omega, fun c5 => by omega, fun c5 => ⟨by omega, fun c6 => ⟨by show zr (M.1 18 0 26); omega, fun c7 => ?_, fun c7 => ⟨by show zr (M.1 18 0 27); omega, fun c8 => ⟨rfl, rfl, fun _ => c64 ⟨_, rfl, fun _ => tlB rfl (by show zr 0; decide) (nx _ 0 _ _ _ ?_ ⟨rfl, fun _ => rfl⟩ (by omega))⟩⟩, fun c8 => ?_⟩⟩, fun c6 => by omega⟩⟩⟩
    · have c7' : ¬ M.1 18 0 26 = 0 := c7
      omega
    · obtain ⟨n, ⟨D, L, F⟩, ⟨w, e, x, md, wt⟩, ⟨P, G⟩, ⟨hd, of, cu⟩, ⟨en, sl⟩, tl⟩ := s
      obtain ⟨wn, sp, df, Z, lo⟩ := q
      obtain ⟨j1, j2, j3, j4, j5, j6, j7, j8, j9, j10, j11⟩ := iS_up i1 hK
      obtain ⟨d1, d2, d3, d4, d5, d6, d7, d8⟩ := i3
      obtain ⟨m1, m2, m3, m4, m5, m6, m7, m8⟩ := i4
      exact ⟨a, (n, (D, L, F), (w, e, x, md, wt), (P, G), (hd, of, N), (en, sl), tl), (wn, sp, df, Z, lo), T, ⟨j1, j2, j3, j4, j5, j6, j7, by omega, j9, j10, j11⟩, i2, ⟨d1, d2, d3, d4, d5, d6, rfl, d8⟩, ⟨m1, m2, m3, m4, m5, m6, rfl, m8⟩, i5, i6, i7, i8, i9, i10⟩
    · have c8' : ¬ M.1 18 0 27 = 0 := c8
      omega
  · rw [hN]
    exact ⟨by omega, g127_0 ⟨by omega, fun c5 => by omega, fun c5 => ⟨by omega, fun c6 => ⟨by omega, fun c7 => ⟨rfl, thr 2 (by decide) _ _ rfl⟩, fun c7 => ⟨by omega, fun c8 => by omega, fun c8 => ⟨rfl, thr 2 (by decide) _ _ rfl⟩⟩⟩, fun c6 => by omega⟩⟩⟩
  · rw [hN]
    exact ⟨by omega, g127_0 ⟨by omega, fun c5 => by omega, fun c5 => ⟨by omega, fun c6 => by omega, fun c6 => ⟨rfl, thr 1 (by decide) _ _ rfl⟩⟩⟩⟩
-- home
theorem lw752 {M : zM} {K x4 : Int} {u5 u6 : Option zV} {cl : Bool} {Q : zQ} (hI : iI M K) (hK : K + 1 ≤ 10000) (nx : lwN M K x4 Q) : zT 145 (752, [some (zR 32 0), some (zR 0 0), some (zR 18 0), some (zR 31 0), some (zI x4), u5, u6], [], M, cl) Q := by
  have hI' := hI
  obtain ⟨a, s, q, T, i1, i2, i3, i4, i5, i6, i7, i8, i9, i10⟩ := hI'
  have ho := iS_of i1
  have hlo := iQ_lo i2
  have e9 := cS_9 i3
  have e26 := mS_26 i4
  have e27 := mQ_27 i6
  have e10 := cQ_10 i5
  -- refused: what is lost stays as it is
  have thr : ∀ l : Int, l = M.1 18 0 27 → ∀ (u6 : Option zV), (none : Option zV) = none ∧ ∀ cl43 : Bool, zF 64 [zR 18 0] (z_w (z_w M 18 0 1 1) 18 0 27 l) (fun v M44 => ∃ r44 : Int, v = some (zI r44) ∧ ∀ cl44 : Bool, (zr r44 ∧ zr 1) ∧ ((r44 = 1 → zT 145 (33, [some (zR 32 0), some (zR 0 0), some (zR 18 0), some (zR 31 0), some (zI (x4 + 3)), some (zI 1), u6], [], M44, cl44) (fun o m c e => Q o m c (1 + e))) ∧ (¬ (r44 = 1) → (fun o m c e => Q o m c (1 + e)) (.inl (some (zI 0))) M44 cl44 0))) := by
    intro l hl u6
    refine ⟨rfl, fun _ => c64 ⟨_, rfl, fun _ => tlB rfl (by show zr 1; decide) (nx _ 1 _ _ _ ?_ ⟨rfl, fun _ => rfl⟩ (by omega))⟩⟩
    have h1 : iI (z_w M 18 0 1 1) (K + 1) := iI_code hI hK
    have e : z_w (z_w M 18 0 1 1) 18 0 27 l = z_w M 18 0 1 1 := by rw [hl]; exact z_w_id (z_w M 18 0 1 1) 18 0 27
    rw [e]; exact h1
  refine g145_752_32 (g137_0 (g136_0 (c135 (by omega) (by omega) (fun c1 c2 => ⟨rfl, rfl, rfl, rfl, fun _ => ⟨_, rfl, fun _ => ?_⟩⟩) (fun c => ⟨rfl, rfl, 1, rfl, _, rfl, fun _ => ?_⟩))))
  · refine g138_0 ⟨by show zr (M.1 18 0 26); omega, fun c3 => ?_, fun c3 => ⟨by show zr (M.1 18 0 27); omega, fun c4 => ⟨rfl, rfl, fun _ => c64 ⟨_, rfl, fun _ => tlB rfl (by show zr 0; decide) (nx _ 0 _ _ _ ?_ ⟨rfl, fun _ => rfl⟩ (by omega))⟩⟩, fun c4 => ?_⟩⟩
    · have c3' : ¬ M.1 18 0 26 = 0 := c3
      omega
    · obtain ⟨n, ⟨D, L, F⟩, ⟨w, e, x, md, wt⟩, ⟨P, G⟩, ⟨hd, of, cu⟩, ⟨en, sl⟩, tl⟩ := s
      obtain ⟨wn, sp, df, Z, lo⟩ := q
      obtain ⟨v1, v2, v3, v4, v5⟩ := i2
      obtain ⟨p1, p2, p3, p4, p5⟩ := i5
      obtain ⟨r1, r2, r3, r4, r5⟩ := i6
      exact ⟨a, (n, (D, L, F), (w, e, x, md, wt), (P, G), (hd, of, cu), (en, sl), tl), (wn, sp, df, Z, 0), T, iS_up i1 hK, ⟨v1, v2, v3, v4, Or.inl rfl⟩, i3, i4, ⟨p1, p2, p3, p4, rfl⟩, ⟨r1, r2, r3, r4, rfl⟩, i7, i8, i9, fun c => by have c' : (0 : Int) = 1 := c; omega⟩
    · have c4' : M.1 18 0 27 = 0 := c4
      omega
  · refine g138_0 ⟨by omega, fun c3 => ⟨by omega, fun c4 => ⟨rfl, thr 0 c4.symm _⟩, fun c4 => ⟨rfl, thr 1 (by omega) _⟩⟩, fun c3 => ⟨by omega, fun c4 => by omega, fun c4 => ⟨by omega, fun c5 => ⟨rfl, thr 0 c5.symm _⟩, fun c5 => absurd c4 c5⟩⟩⟩
