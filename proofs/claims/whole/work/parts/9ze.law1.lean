-- The law's cases: write, wipe, receive, wanted, tick, run. (own work)
abbrev lwN (M : zM) (K x4 : Int) (Q : zQ) : Prop := ∀ (M' : zM) (d : Nat) (u5 u6 : Option zV) (cl : Bool), iI M' (K + 1) → sSc M M' → d ≤ 1 → zT 145 (33, [some (zR 32 0), some (zR 0 0), some (zR 18 0), some (zR 31 0), some (zI (x4 + 3)), u5, u6], [], M', cl) (fun o m c e => Q o m c (d + e))
theorem lwN0 {M : zM} {K x4 : Int} {Q : zQ} (h : lwN M K x4 Q) (M' : zM) (u5 u6 : Option zV) (cl : Bool) (hI : iI M' (K + 1)) (hs : sSc M M') : zT 145 (33, [some (zR 32 0), some (zR 0 0), some (zR 18 0), some (zR 31 0), some (zI (x4 + 3)), u5, u6], [], M', cl) Q := by
  have h1 := h M' 0 u5 u6 cl hI hs (by omega)
  have e : (fun o m c e => Q o m c (0 + e)) = Q := by
    funext o m c e
    rw [Nat.zero_add]
  rw [e] at h1
  exact h1
abbrev lwX (M : zM) (x4 : Int) : Prop := (0 ≤ x4 ∧ x4 + 2 < (M.2.2 : Int) ∧ (M.2.2 : Int) ≤ 100000) ∧ ∀ i, zr (M.1 32 0 i)
def stT (t : Int) : aS → aS
  | (n, B, W, PG, H, E, _) => (n, B, W, PG, H, E, t)
theorem aT_stT (t : Int) (s : aS) : aT (stT t s) = t := by
  obtain ⟨n, ⟨D, L, F⟩, ⟨w, e, x, md, wt⟩, ⟨P, G⟩, ⟨hd, of, cu⟩, ⟨en, sl⟩, tl⟩ := s
  rfl
theorem iS_stT {a K t : Int} {s : aS} (h : iS a K s) : iS a K (stT t s) := by
  obtain ⟨n, ⟨D, L, F⟩, ⟨w, e, x, md, wt⟩, ⟨P, G⟩, ⟨hd, of, cu⟩, ⟨en, sl⟩, tl⟩ := s
  exact h
theorem stT_1 (t : Int) (s : aS) : (stT t s).1 = s.1 := by
  obtain ⟨n, ⟨D, L, F⟩, ⟨w, e, x, md, wt⟩, ⟨P, G⟩, ⟨hd, of, cu⟩, ⟨en, sl⟩, tl⟩ := s
  rfl
theorem clT_e (s : aS) : clT s = stT 0 s := by
  obtain ⟨n, ⟨D, L, F⟩, ⟨w, e, x, md, wt⟩, ⟨P, G⟩, ⟨hd, of, cu⟩, ⟨en, sl⟩, tl⟩ := s
  rfl
theorem cS_stT {M M' : zM} {a t : Int} {s : aS} (f : zfr p1 zno M M') (ht : M'.1 1 0 1 = t) (h : cS M a s) : cS M' a (stT t s) := by
  obtain ⟨n, ⟨D, L, F⟩, ⟨w, e, x, md, wt⟩, ⟨P, G⟩, ⟨hd, of, cu⟩, ⟨en, sl⟩, tl⟩ := s
  have k : ∀ k, ¬ k = 1 → ¬ k = 2 → ∀ j s, M'.1 k j s = M.1 k j s := fun k h1 h2 j s => f.1 k j s (by unfold p1; omega)
  have eb : ∀ i, bN M' i = bN M i := fun i => by unfold bN bAt; rw [k 8 (by omega) (by omega)]
  obtain ⟨h1, h2, ⟨h3, h4, h5⟩, h6, h7, h8, h9, h10, h11, h12⟩ := h
  refine ⟨cRow_eq (k 8 (by omega) (by omega) _ _) (k 8 (by omega) (by omega) _ _) (fun b s => k 11 (by omega) (by omega) _ _) (fun b => k 10 (by omega) (by omega) _ _) (fun b => k 10 (by omega) (by omega) _ _) h1, by rw [k 8 (by omega) (by omega)]; exact h2, ⟨by rw [k 8 (by omega) (by omega)]; exact h3, fun c => cEnt_eq (k 8 (by omega) (by omega) _ _) (fun i _ _ => k 10 (by omega) (by omega) _ _) (h4 c), fun c => ?_⟩, fun q hq => ?_, ?_, ?_, ?_, ?_, fun q hq => ?_, ht⟩
  · obtain ⟨g1, g2, g3, g4, g5⟩ := h5 c
    rw [eb, k 10 (by omega) (by omega), k 10 (by omega) (by omega), k 8 (by omega) (by omega), k 8 (by omega) (by omega)]
    exact ⟨g1, g2, cEnt_eq (k 8 (by omega) (by omega) _ _) (fun i _ _ => k 10 (by omega) (by omega) _ _) g3, g4, g5⟩
  · rw [k 14 (by omega) (by omega), k 15 (by omega) (by omega)]; exact h6 q hq
  · rw [k 0 (by omega) (by omega)]; exact h7
  · rw [k 0 (by omega) (by omega)]; exact h8
  · rw [k 0 (by omega) (by omega)]; exact h9
  · rw [k 12 (by omega) (by omega)]; exact h10
  · rw [k 13 (by omega) (by omega)]; exact h11 q hq
theorem mS_stT {M M' : zM} {a t : Int} {s : aS} (f : zfr p3 zno M M') (ht : M'.1 18 0 2 = t) (h : mS M a s) : mS M' a (stT t s) := by
  obtain ⟨n, ⟨D, L, F⟩, ⟨w, e, x, md, wt⟩, ⟨P, G⟩, ⟨hd, of, cu⟩, ⟨en, sl⟩, tl⟩ := s
  have k : ∀ k, ¬ k = 18 → ¬ k = 19 → ∀ j s, M'.1 k j s = M.1 k j s := fun k h1 h2 j s => f.1 k j s (by unfold p3; omega)
  have k18 : ∀ s, ¬ s = 1 → ¬ s = 2 → M'.1 18 0 s = M.1 18 0 s := fun s h1 h2 => f.1 18 0 s (by unfold p3; omega)
  obtain ⟨h1, h2, ⟨h3, h5⟩, g1, g2, g3, g4, g5, g6, g7⟩ := h
  refine ⟨mRow_eq (k18 15 (by omega) (by omega)) (fun s => k 26 (by omega) (by omega) _ _) (fun s => k 27 (by omega) (by omega) _ _) (fun s => k 28 (by omega) (by omega) _ _) h1, by rw [k18 0 (by omega) (by omega)]; exact h2, ⟨by rw [k18 19 (by omega) (by omega)]; exact h3, fun c => ?_⟩, fun q hq => ?_, ?_, ?_, ?_, ?_, fun q hq => ?_, ht⟩
  · obtain ⟨q1, q2, q3, q4, q5⟩ := h5 c
    rw [f.2.1 18 0 20 (by simp), f.2.1 18 0 21 (by simp), k18 23 (by omega) (by omega), k18 24 (by omega) (by omega)]
    exact ⟨q1, q2, q3, q4, fun q hq => by rw [k 29 (by omega) (by omega)]; exact q5 q hq⟩
  · rw [k 23 (by omega) (by omega), k 24 (by omega) (by omega)]; exact g1 q hq
  · rw [k18 25 (by omega) (by omega)]; exact g2
  · rw [k18 26 (by omega) (by omega)]; exact g3
  · rw [k18 28 (by omega) (by omega)]; exact g4
  · rw [k18 29 (by omega) (by omega)]; exact g5
  · rw [k 30 (by omega) (by omega)]; exact g6 q hq
theorem lo1 : loK p1 := fun k s h => by unfold p1 at h; omega
theorem hi3 : hiK p3 := fun k s h => by unfold p3 at h; omega
theorem loPLo : loK pLo := fun k s h => h
theorem hiPHi : hiK pHi := fun k s h => h.1
theorem noL : ∀ k s, zno k s → ¬ k = 18 := fun _ _ h => h.elim
-- write
theorem lw136 {M : zM} {K x4 : Int} {u5 u6 : Option zV} {cl : Bool} {Q : zQ} (hI : iI M K) (hK : K + 1 ≤ 10000) (hx : lwX M x4) (nx : lwN M K x4 Q) : zT 145 (136, [some (zR 32 0), some (zR 0 0), some (zR 18 0), some (zR 31 0), some (zI x4), u5, u6], [], M, cl) Q := by
  obtain ⟨a, s, q, T, i1, i2, i3, i4, i5, i6, i7, i8, i9, i10⟩ := hI
  obtain ⟨⟨x1, x2, x3⟩, hz⟩ := hx
  have z1 := hz (x4 + 1).toNat
  have z2 := hz (x4 + 2).toNat
  have hp : (2 : Int) ^ 32 = 4294967296 := by decide
  have hT : cTx M T (aT s) := ⟨cS_T i3, i8⟩
  have hT2 : mTx M T (aT s) := ⟨mS_T i4, i9⟩
  -- both keep the text alike
  have both : ∀ (M1 M2 : zM) (T' : Nat → Int) (t : Int), zfr p1 zno M M1 → zfr p3 zno M1 M2 → cTx M1 T' t → mTx M2 T' t → okT T' t → iI M2 (K + 1) ∧ sSc M M2 := by
    intro M1 M2 T' t f1 f2 t1 t2 ok
    refine ⟨⟨a, stT t s, q, T', iS_up (iS_stT i1) hK, i2, cS_fr f2 hi3 (cS_stT f1 t1.1 i3), mS_stT f2 t2.1 (mS_fr f1 lo1 noL i4), cQ_fr f2 hi3 (cQ_eq (fun k j s hs => f1.1 k j s (by unfold sQ at hs; unfold p1; omega)) i5), mQ_eq (fun k j s hs => f2.1 k j s (by unfold sNq at hs; unfold p3; omega)) (mQ_fr f1 lo1 i6), by rw [aT_stT]; exact ok, fun i hi => ?_, fun i hi => ?_, by rw [stT_1]; exact i10⟩, (sSc_fr f1 (fun s => by unfold p1; omega)).trans (sSc_fr f2 (fun s => by unfold p3; omega))⟩
    · rw [aT_stT] at hi
      rw [f2.1 2 0 i (by unfold p3; omega)]; exact t1.2 i hi
    · rw [aT_stT] at hi
      exact t2.2 i hi
  have m1 : ∀ M1, zfr p1 zno M M1 → mTx M1 T (aT s) := fun M1 f1 => mTx_fr f1 (by unfold p1; omega) (fun i => by unfold p1; omega) hT2
  have sc : ∀ M1, zfr p1 zno M M1 → M1.2.2 = M.2.2 ∧ ∀ i, M1.1 32 0 i = M.1 32 0 i := fun M1 f1 => sSc_fr f1 (fun s => by unfold p1; omega)
  refine g145_136_32 ⟨by omega, z1, by omega, z2, by rw [hp]; omega, c2 hT i7 (fun hw M1 f1 t1 => ⟨_, rfl, fun _ => ?_⟩) (fun hw M1 f1 t1 => ⟨_, rfl, fun _ => ?_⟩)⟩
  · rw [(sc M1 f1).1, (sc M1 f1).2, (sc M1 f1).2]
    refine ⟨by omega, z1, by omega, z2, by rw [hp]; omega, c3 (m1 M1 f1) i7 (fun hw2 M2 f2 e2 t2 => ⟨_, rfl, fun _ => ?_⟩) (fun hw2 => absurd hw hw2)⟩
    have hN := wN_le (byt (M.1 32 0 (x4 + 1).toNat * 2 ^ 32 + M.1 32 0 (x4 + 2).toNat % 4294967296)) 8
    have hb := both M1 M2 _ _ f1 f2 t1 t2 ⟨by have := i7.1; omega, hw.2, wT_ok i7 hw.1 8 (by omega)⟩
    exact tlB rfl (by omega) (lwN0 nx M2 _ _ _ hb.1 hb.2)
  · rw [(sc M1 f1).1, (sc M1 f1).2, (sc M1 f1).2]
    refine ⟨by omega, z1, by omega, z2, by rw [hp]; omega, c3 (m1 M1 f1) i7 (fun hw2 => absurd hw2 hw) (fun hw2 M2 f2 e2 t2 => ⟨_, rfl, fun _ => ?_⟩)⟩
    have hb := both M1 M2 _ _ f1 f2 t1 t2 i7
    exact tlB rfl (by omega) (lwN0 nx M2 _ _ _ hb.1 hb.2)
-- wipe
theorem lw193 {M : zM} {K x4 : Int} {u5 u6 : Option zV} {cl : Bool} {Q : zQ} (hI : iI M K) (hK : K + 1 ≤ 10000) (nx : lwN M K x4 Q) : zT 145 (193, [some (zR 32 0), some (zR 0 0), some (zR 18 0), some (zR 31 0), some (zI x4), u5, u6], [], M, cl) Q := by
  obtain ⟨a, s, q, T, i1, i2, i3, i4, i5, i6, i7, i8, i9, i10⟩ := hI
  have e1 := cS_T i3
  have e2 := mS_T i4
  have h80 := i7.2.1
  have h0 := i7.1
  refine g145_193_32 (c5 ⟨_, rfl, fun _ => c6 ⟨_, rfl, fun _ => tlB (by rw [e1, z_w_get_ne (by omega), e2]) (by omega) (lwN0 nx _ _ _ _ ?_ ?_)⟩⟩)
  · refine ⟨a, clT s, q, T, iS_up (iS_clT i1) hK, i2, ?_, mS_clT (mS_code (mS_fr (P := fun k _ => k = 1) (PL := zno) ((zfr.refl _ _ _).w 1 0 1 _ rfl) (fun k s h => by omega) noL i4)), ?_, ?_, ?_, fun i hi => ?_, fun i hi => ?_, ?_⟩
    · exact cS_eq (fun k j s hs => by rw [z_w_get_ne (by unfold sC at hs; omega), z_w_get_ne (by unfold sC at hs; omega)]) (cS_clT i3)
    · exact cQ_eq (fun k j s hs => by rw [z_w_get_ne (by unfold sQ at hs; omega), z_w_get_ne (by unfold sQ at hs; omega), z_w_get_ne (by unfold sQ at hs; omega)]) i5
    · exact mQ_eq (fun k j s hs => by rw [z_w_get_ne (by unfold sNq at hs; omega), z_w_get_ne (by unfold sNq at hs; omega), z_w_get_ne (by unfold sNq at hs; omega)]) i6
    · rw [clT_e, aT_stT]; exact ⟨by omega, by omega, fun i hi => by omega⟩
    · rw [clT_e, aT_stT] at hi; omega
    · rw [clT_e, aT_stT] at hi; omega
    · rw [clT_e, stT_1]; exact i10
  · exact ⟨rfl, fun i => rfl⟩
-- receive
theorem c49 {M : zM} {a K : Int} {s : aS} {q : aQ} {T : Nat → Int} {R : Option zV → zM → Nat → Prop} (hs : cS M a s) (hi : iS a K s) (hK : K + 1 ≤ 10000) (hq : cQ M q) (hiq : iQ q) (hT : cTx M T (aT s)) (hk : okT T (aT s))
    (h0 : aOf s = 1 ∨ q.2.2.2.2 = 1 → R (some (zI 1)) M 1)
    (h : aOf s = 0 → q.2.2.2.2 = 0 → ∀ (ans : Int) (s' : aS) (q' : aQ) (M' : zM), rcR T s q ans s' q' → zfr pLo zno M M' → cS M' a s' → cQ M' q' → R (some (zI 0)) (z_wl M' 31 0 0 ans) 0) : zG 49 [zR 0 0, zR 31 0] M R :=
  g49_0 (c48 hs hi hq hiq hT hk (fun c => ⟨1, rfl, h0 c⟩) (fun c1 c2 ans s' q' M' c hr f' s2 q2 => ⟨ans, rfl, fun _ => ⟨by have := rcR_ok hi hiq hK c1 hk hr; omega, h c1 c2 ans s' q' M' hr f' s2 q2⟩⟩))
theorem iQ_lo {q : aQ} (h : iQ q) : q.2.2.2.2 = 0 ∨ q.2.2.2.2 = 1 := by
  obtain ⟨wn, sp, df, Z, lo⟩ := q
  exact h.2.2.2.2
theorem mQ_27 {M : zM} {q : aQ} (h : mQ M q) : M.1 18 0 27 = q.2.2.2.2 := by
  obtain ⟨wn, sp, df, Z, lo⟩ := q
  exact h.2.2.2.2
theorem cQ_10 {M : zM} {q : aQ} (h : cQ M q) : M.1 0 0 10 = q.2.2.2.2 := by
  obtain ⟨wn, sp, df, Z, lo⟩ := q
  exact h.2.2.2.2
-- only the code has changed
theorem iI_code {M : zM} {K v : Int} (hI : iI M K) (hK : K + 1 ≤ 10000) : iI (z_w M 18 0 1 v) (K + 1) := by
  obtain ⟨a, s, q, T, i1, i2, i3, i4, i5, i6, i7, i8, i9, i10⟩ := hI
  exact ⟨a, s, q, T, iS_up i1 hK, i2, cS_eq (fun k j s hs => z_w_get_ne (by unfold sC at hs; omega)) i3, mS_code i4, cQ_eq (fun k j s hs => z_w_get_ne (by unfold sQ at hs; omega)) i5, mQ_eq (fun k j s hs => z_w_get_ne (by unfold sNq at hs; omega)) i6, i7, i8, i9, i10⟩
theorem iI_wl {M : zM} {K v : Int} (hI : iI M K) : iI (z_wl M 31 0 0 v) K := by
  obtain ⟨a, s, q, T, i1, i2, i3, i4, i5, i6, i7, i8, i9, i10⟩ := hI
  exact ⟨a, s, q, T, i1, i2, cS_wl i3, mS_wl i4, cQ_wl i5, mQ_wl i6, i7, i8, i9, i10⟩
theorem sSc_code (M : zM) (v : Int) : sSc M (z_w M 18 0 1 v) := ⟨rfl, fun _ => rfl⟩
theorem sSc_wl (M : zM) (v : Int) : sSc M (z_wl M 31 0 0 v) := ⟨rfl, fun _ => rfl⟩
theorem lw206 {M : zM} {K x4 : Int} {u5 u6 : Option zV} {cl : Bool} {Q : zQ} (hI : iI M K) (hK : K + 1 ≤ 10000) (nx : lwN M K x4 Q) : zT 145 (206, [some (zR 32 0), some (zR 0 0), some (zR 18 0), some (zR 31 0), some (zI x4), u5, u6], [], M, cl) Q := by
  have hI' := hI
  obtain ⟨a, s, q, T, i1, i2, i3, i4, i5, i6, i7, i8, i9, i10⟩ := hI'
  have hT : cTx M T (aT s) := ⟨cS_T i3, i8⟩
  have hT2 : mTx M T (aT s) := ⟨mS_T i4, i9⟩
  have ho := iS_of i1
  have hlo := iQ_lo i2
  refine g145_206_32 (c49 i3 i1 hK i5 i2 hT i7 (fun c => ⟨_, rfl, fun _ => ?_⟩) (fun c1 c2 ans s' q' M1 hr f1 s1 q1 => ⟨_, rfl, fun _ => ?_⟩))
  · have e26 := mS_26 i4
    have e27 := mQ_27 i6
    refine g63_0 (c50 (by omega) (by omega) (fun _ _ => by omega) (fun _ => ⟨_, rfl, fun _ => ⟨by omega, fun q => absurd rfl q, fun _ => ⟨rfl, _, rfl, fun _ => c64 ⟨_, rfl, fun _ => tlA rfl (by omega) (fun q => absurd q (by decide)) (nx _ 1 _ _ _ (iI_code hI hK) (sSc_code _ _) (by omega))⟩⟩⟩⟩))
  · have hro := rcR_ok i1 i2 hK c1 i7 hr
    have m1 : mS (z_wl M1 31 0 0 ans) a s := mS_wl (mS_fr f1 loPLo noL i4)
    have n1 : mQ (z_wl M1 31 0 0 ans) q := mQ_wl (mQ_fr f1 loPLo i6)
    have t1 : mTx (z_wl M1 31 0 0 ans) T (aT s) := mTx_fr (M' := M1) f1 (by simp) (fun i => by simp) hT2
    refine c63 m1 i1 n1 i2 t1 i7 c1 c2 hr (fun M2 f2 s2 q2 => ⟨_, rfl, fun _ => c64 ⟨_, rfl, fun _ => ?_⟩⟩)
    have e1 : M2.1 18 0 1 = 0 := by rw [f2.1 18 0 1 (by simp [pHi])]; rfl
    have eo : M2.2.1 31 0 0 = ans := by rw [f2.2.1 31 0 0 (by simp)]; simp [z_wl_get, z_w]
    rw [e1, eo]
    refine tlA rfl (by omega) (fun _ => ⟨by omega, rfl⟩) (nx M2 0 _ _ _ ?_ ?_ (by omega))
    · refine ⟨a, s', q', T, hro.1, hro.2.1, cS_fr f2 hiPHi (cS_eq (fun k j q hq => z_w_get_ne (by unfold sC at hq; omega)) (cS_wl s1)), s2, cQ_fr f2 hiPHi (cQ_eq (fun k j q hq => z_w_get_ne (by unfold sQ at hq; omega)) (cQ_wl q1)), q2, ?_, fun i hi => ?_, fun i hi => ?_, fun c => ?_⟩
      · rw [hro.2.2.2.2]; exact ⟨by omega, by omega, fun i hi => by omega⟩
      · rw [hro.2.2.2.2] at hi; omega
      · rw [hro.2.2.2.2] at hi; omega
      · rw [hro.2.2.2.1] at c; omega
    · exact ((sSc_fr f1 (fun s => by simp)).trans (sSc_wl M1 ans)).trans ((sSc_code _ 0).trans (sSc_fr f2 (fun s => by simp [pHi])))
-- wanted
theorem lw250 {M : zM} {K x4 : Int} {u5 u6 : Option zV} {cl : Bool} {Q : zQ} (hI : iI M K) (hK : K + 1 ≤ 10000) (nx : lwN M K x4 Q) : zT 145 (250, [some (zR 32 0), some (zR 0 0), some (zR 18 0), some (zR 31 0), some (zI x4), u5, u6], [], M, cl) Q := by
  have hI' := hI
  obtain ⟨a, s, ⟨wn, sp, df, Z, lo⟩, T, i1, i2, i3, i4, i5, i6, i7, i8, i9, i10⟩ := hI'
  have h1 := i2.1
  refine g145_250_32 (c65 ⟨_, rfl, fun _ => c66 ⟨_, rfl, fun _ => tlB (by rw [i5.1, i6.1]) (by rw [i5.1]; omega) (lwN0 nx _ _ _ _ (iI_code hI hK) (sSc_code _ _))⟩⟩)
