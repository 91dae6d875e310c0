-- The law's cases: tick, run. (own work)
theorem endB_T (a : Int) (s : aS) : aT (endB a s) = aT s ∨ aT (endB a s) = 0 := by
  obtain ⟨n, ⟨D, L, F⟩, ⟨w, e, x, md, wt⟩, ⟨P, G⟩, ⟨hd, of, cu⟩, ⟨en, sl⟩, tl⟩ := s
  simp only [endB]
  by_cases c : cu = -1
  · rw [if_pos c]
    by_cases c2 : hd = 0 ∧ 2 ≤ n
    · rw [if_pos c2]; exact Or.inl rfl
    · rw [if_neg c2]; exact Or.inl rfl
  · rw [if_neg c]; exact Or.inr rfl
theorem beg_T (a : Int) (s : aS) : aT (beg a s) = aT s := by
  obtain ⟨n, ⟨D, L, F⟩, ⟨w, e, x, md, wt⟩, ⟨P, G⟩, ⟨hd, of, cu⟩, ⟨en, sl⟩, tl⟩ := s
  by_cases c : w = 0 ∧ hd = 0 ∧ 1 ≤ n
  · rw [beg_y c]; rfl
  · rw [beg_n c]
theorem tck_T (a : Int) (s : aS) : aT (tck a s).1 = aT s ∨ aT (tck a s).1 = 0 := by
  have hb := beg_T a s
  unfold tck
  generalize beg a s = t at *
  rw [← hb]
  obtain ⟨n, ⟨D, L, F⟩, ⟨w, e, x, md, wt⟩, ⟨P, G⟩, ⟨hd, of, cu⟩, ⟨en, sl⟩, tl⟩ := t
  simp only [tck1]
  by_cases c : w = 0
  · rw [if_pos c]; exact Or.inl rfl
  · rw [if_neg c]
    by_cases c1 : 2 ≤ wt
    · rw [if_pos c1]; exact Or.inl rfl
    · rw [if_neg c1]
      by_cases c2 : F 0 = 0
      · rw [if_pos c2]; exact endB_T a _
      · rw [if_neg c2]
        by_cases c3 : md + 1 < L 0
        · rw [if_pos c3]; exact Or.inl rfl
        · rw [if_neg c3]; exact endB_T a _
theorem aRun_T (a : Int) : ∀ (r : Nat) (s : aS), aT (aRun a r s).1 = aT s ∨ aT (aRun a r s).1 = 0
  | 0, s => Or.inl rfl
  | r + 1, s => by
    by_cases c : aOf s = 1
    · rw [aRun_off c]; exact Or.inl rfl
    · rw [aRun, if_neg c]
      have h1 := aRun_T a r (tck a s).1
      have h2 := tck_T a s
      show aT (aRun a r (tck a s).1).1 = aT s ∨ aT (aRun a r (tck a s).1).1 = 0
      omega
theorem okT_d {T : Nat → Int} {n n' : Int} (h : okT T n) (hn : n' = n ∨ n' = 0) : okT T n' := by
  rcases hn with e | e
  · rw [e]; exact h
  · rw [e]; exact ⟨by omega, by omega, fun i hi => by omega⟩
-- both have run
theorem iI_run {M M1 M2 : zM} {K a v : Int} {s s' : aS} {q : aQ} {T : Nat → Int} (h : iR M K a s q T) (hK : K + 1 ≤ 10000) (hi : iS a K s') (ht : aT s' = aT s ∨ aT s' = 0) (hlo : q.2.2.2.2 = 0) (f1 : zfr p83 zno M M1) (c1 : cS M1 a s') (f2 : zfr p97 l97 (z_w (z_wl M1 31 0 0 v) 18 0 1 0) M2) (m2 : mS M2 a s') : iI M2 (K + 1) ∧ sSc M M2 ∧ M2.1 18 0 1 = 0 ∧ M2.2.1 31 0 0 = v := by
  obtain ⟨i1, i2, i3, i4, i5, i6, i7, i8, i9, i10⟩ := h
  refine ⟨⟨a, s', q, T, iS_up hi hK, i2, cS_fr f2 hi97 (cS_eq (fun k j q hq => z_w_get_ne (by unfold sC at hq; omega)) (cS_wl c1)), m2, cQ_fr f2 hi97 (cQ_eq (fun k j q hq => z_w_get_ne (by unfold sQ at hq; omega)) (cQ_wl (cQ_eq (fun k j s hs => f1.1 k j s (by unfold sQ at hs; unfold p83; omega)) i5))), mQ_eq (fun k j s hs => ?_) i6, okT_d i7 ht, fun i hi => ?_, fun i hi => ?_, fun c => by omega⟩, ?_, ?_, ?_⟩
  · rw [f2.1 k j s (by unfold sNq at hs; unfold p97 p96; omega), z_w_get_ne (by unfold sNq at hs; omega)]
    exact f1.1 k j s (by unfold sNq at hs; unfold p83; omega)
  · have h0 := i7.1
    have e : M2.1 2 0 i = M.1 2 0 i := by
      rw [f2.1 2 0 i (by simp [p97, p96])]
      exact f1.1 2 0 i (by simp [p83])
    rw [e]; exact i8 i (by omega)
  · have e : M2.1 19 0 i = M.1 19 0 i := by
      rw [f2.1 19 0 i (by simp [p97, p96])]
      exact f1.1 19 0 i (by simp [p83])
    rw [e]; exact i9 i (by omega)
  · exact ((sSc_fr f1 (fun s => by simp [p83])).trans (sSc_wl M1 v)).trans ((sSc_code _ 0).trans (sSc_fr f2 (fun s => by simp [p97, p96])))
  · rw [f2.1 18 0 1 (by simp [p97, p96])]; rfl
  · rw [f2.2.1 31 0 0 (by simp)]; simp [z_w, z_wl_get]
theorem c85 {M : zM} {a K : Int} {s : aS} {q : aQ} {R : Option zV → zM → Nat → Prop} (hs : cS M a s) (hi : iS a K s) (hq : cQ M q) (hiq : iQ q)
    (h0 : aOf s = 1 ∨ q.2.2.2.2 = 1 → R (some (zI 1)) M 1)
    (h : aOf s = 0 → q.2.2.2.2 = 0 → ∀ (M' : zM), zfr p83 zno M M' → cS M' a (tck a s).1 → R (some (zI 0)) (z_wl M' 31 0 0 (tck a s).2.1) 0) : zG 85 [zR 0 0, zR 31 0] M R := by
  have e9 := cS_9 hs
  have ho := iS_of hi
  have e10 := cQ_10 hq
  have hlo := iQ_lo hiq
  have hb := tck_bits hi
  exact g85_0 (g84_0 (c7 (by omega) (by omega) (fun c1 c2 => ⟨rfl, rfl, c83 hs hi (fun M' f' s' => ⟨_, rfl, fun cl => ⟨rfl, _, rfl, fun _ => ⟨by omega, h (by omega) (by omega) M' f' s'⟩⟩⟩)⟩) (fun c => ⟨rfl, rfl, 1, rfl, h0 (by omega)⟩)))
theorem lw263 {M : zM} {K x4 : Int} {u5 u6 : Option zV} {cl : Bool} {Q : zQ} (hI : iI M K) (hK : K + 1 ≤ 10000) (nx : lwN M K x4 Q) : zT 145 (263, [some (zR 32 0), some (zR 0 0), some (zR 18 0), some (zR 31 0), some (zI x4), u5, u6], [], M, cl) Q := by
  have hI' := hI
  obtain ⟨a, s, q, T, hR⟩ := hI'
  have hR' := hR
  obtain ⟨i1, i2, i3, i4, i5, i6, i7, i8, i9, i10⟩ := hR'
  have ho := iS_of i1
  have hlo := iQ_lo i2
  have hb := tck_bits i1
  refine g145_263_32 (c85 i3 i1 i5 i2 (fun c => ⟨_, rfl, fun _ => ?_⟩) (fun c1 c2 M1 f1 s1 => ⟨_, rfl, fun _ => ?_⟩))
  · have e26 := mS_26 i4
    have e27 := mQ_27 i6
    refine g98_0 (c50 (by omega) (by omega) (fun _ _ => by omega) (fun _ => ⟨_, rfl, fun _ => ⟨by omega, fun _ => ⟨rfl, _, rfl, fun _ => c64 ⟨_, rfl, fun _ => tlA rfl (by omega) (fun q => absurd q (by decide)) (nx _ 1 _ _ _ (iI_code hI hK) (sSc_code _ _) (by omega))⟩⟩, fun q => absurd rfl q⟩⟩))
  · have m1 : mS (z_wl M1 31 0 0 (tck a s).2.1) a s := mS_wl (mS_fr f1 lo83 noL i4)
    have n1 : mQ (z_wl M1 31 0 0 (tck a s).2.1) q := mQ_wl (mQ_fr f1 lo83 i6)
    have e26 := mS_26 m1
    have e27 := mQ_27 n1
    refine g98_0 (c50 (by omega) (by omega) (fun _ _ => ⟨_, rfl, fun _ => ⟨by omega, fun q => absurd q (by decide), fun _ => c97 (mS_code m1) i1 (fun M2 f2 s2 t2 => ⟨_, rfl, fun _ => ⟨rfl, _, rfl, fun _ => c64 ⟨_, rfl, fun _ => ?_⟩⟩⟩)⟩⟩) (fun _ => by omega))
    have hr := iI_run hR hK (tck_ok i1) (tck_T a s) c2 f1 s1 f2 s2
    rw [hr.2.2.1, hr.2.2.2]
    exact tlA rfl (by omega) (fun _ => ⟨by omega, rfl⟩) (nx M2 0 _ _ _ hr.1 hr.2.1 (by omega))
theorem lw307 {M : zM} {K x4 : Int} {u5 u6 : Option zV} {cl : Bool} {Q : zQ} (hI : iI M K) (hK : K + 1 ≤ 10000) (hx : lwX M x4) (nx : lwN M K x4 Q) : zT 145 (307, [some (zR 32 0), some (zR 0 0), some (zR 18 0), some (zR 31 0), some (zI x4), u5, u6], [], M, cl) Q := by
  have hI' := hI
  obtain ⟨a, s, q, T, hR⟩ := hI'
  have hR' := hR
  obtain ⟨i1, i2, i3, i4, i5, i6, i7, i8, i9, i10⟩ := hR'
  obtain ⟨⟨x1, x2, x3⟩, hz⟩ := hx
  have z1 := hz (x4 + 1).toNat
  have ho := iS_of i1
  have hlo := iQ_lo i2
  have e10 := cQ_10 i5
  have e26 := mS_26 i4
  have e27 := mQ_27 i6
  generalize hN : M.1 32 0 (x4 + 1).toNat = N at *
  have hrn := aRun_r N.toNat s i1
  refine g145_307_32 ?_
  rw [hN]
  refine ⟨by omega, g102_0 (c101 z1 i3 i1 (by omega) (fun c => ⟨1, rfl, _, rfl, fun _ => ?_⟩) (fun c1 c2 c => ⟨2, rfl, _, rfl, fun _ => ?_⟩) (fun c1 c2 c3 c4 M1 cl1 f1 s1 => ⟨_, rfl, fun _ => ⟨by omega, _, rfl, fun _ => ?_⟩⟩))⟩
  · rw [hN]
    refine ⟨by omega, c103 z1 i4 i1 (by omega) (fun _ => ⟨_, rfl, fun _ => c64 ⟨_, rfl, fun _ => tlA rfl (by decide) (fun q => absurd q (by decide)) (nx _ 1 _ _ _ (iI_code hI hK) (sSc_code _ _) (by omega))⟩⟩) (fun _ _ _ => by omega) (fun _ _ => by omega)⟩
  · rw [hN]
    refine ⟨by omega, c103 z1 i4 i1 (by omega) (fun _ => by omega) (fun _ _ _ => ⟨_, rfl, fun _ => c64 ⟨_, rfl, fun _ => tlA rfl (by decide) (fun q => absurd q (by decide)) (nx _ 1 _ _ _ ?_ ((sSc_code _ _).trans (sSc_code _ _)) (by omega))⟩⟩) (fun _ _ _ _ => by omega)⟩
    rw [z_w_w]
    exact iI_code hI hK
  · have m1 : mS (z_wl M1 31 0 0 (aRun a N.toNat s).2) a s := mS_wl (mS_fr f1 lo83 noL i4)
    have n1 : mQ (z_wl M1 31 0 0 (aRun a N.toNat s).2) q := mQ_wl (mQ_fr f1 lo83 i6)
    have e262 := mS_26 m1
    have e272 := mQ_27 n1
    have es : (z_wl M1 31 0 0 (aRun a N.toNat s).2).2.2 = M.2.2 := f1.2.2
    have en : (z_wl M1 31 0 0 (aRun a N.toNat s).2).1 32 0 (x4 + 1).toNat = N := by
      rw [← hN]; exact f1.1 32 0 _ (by simp [p83])
    rw [es, en]
    refine ⟨by omega, c103 z1 m1 i1 (by omega) (fun _ => by omega) (fun _ _ _ => by omega) (fun _ _ _ _ M2 f2 s2 => ⟨_, rfl, fun _ => c64 ⟨_, rfl, fun _ => ?_⟩⟩)⟩
    have hr := iI_run hR hK hrn.1 (aRun_T a N.toNat s) (by omega) f1 s1 f2 s2
    rw [hr.2.2.1, hr.2.2.2]
    exact tlA rfl (by decide) (fun _ => ⟨by omega, rfl⟩) (nx M2 0 _ _ _ hr.1 hr.2.1 (by omega))
