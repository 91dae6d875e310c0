-- The reference ends a block. (own work)
theorem mRs_eq {M M' : zM} {P G : Nat → Int} {hd of cu en : Int} {sl : Nat → Int} {tl : Int} (h25 : M'.1 18 0 25 = M.1 18 0 25) (h26 : M'.1 18 0 26 = M.1 18 0 26) (h28 : M'.1 18 0 28 = M.1 18 0 28) (h29 : M'.1 18 0 29 = M.1 18 0 29) (h2 : M'.1 18 0 2 = M.1 18 0 2) (h23 : ∀ s, M'.1 23 0 s = M.1 23 0 s) (h24 : ∀ s, M'.1 24 0 s = M.1 24 0 s) (h30 : ∀ s, M'.1 30 0 s = M.1 30 0 s) (h : mRs M P G hd of cu en sl tl) : mRs M' P G hd of cu en sl tl := by
  obtain ⟨g1, g2, g3, g4, g5, g6, g7⟩ := h
  exact ⟨fun q hq => by rw [h23, h24]; exact g1 q hq, by rw [h25]; exact g2, by rw [h26]; exact g3, by rw [h28]; exact g4, by rw [h29]; exact g5, fun k hk => by rw [h30]; exact g6 k hk, by rw [h2]; exact g7⟩
abbrev p96 : Nat → Nat → Prop := fun k s => k = 23 ∨ k = 24 ∨ k = 26 ∨ k = 27 ∨ k = 28 ∨ k = 29 ∨ k = 30 ∨ (k = 18 ∧ (s = 2 ∨ s = 15 ∨ s = 19 ∨ s = 23 ∨ s = 24 ∨ s = 25 ∨ s = 26 ∨ s = 28 ∨ s = 29))
theorem hi96 : hiK p96 := fun k s h => by rcases h with h | h | h | h | h | h | h | h <;> omega
theorem p93_96 : ∀ k s, p93 k s → p96 k s := fun k s hp => by
  rcases hp with hp | ⟨h1, h2⟩
  · simp [p96, hp]
  · rcases h2 with h2 | h2 | h2 <;> simp [p96, h1, h2]
theorem p95_96 : ∀ k s, p95 k s → p96 k s := fun k s hp => by
  rcases hp with hp | hp | hp | ⟨h1, h2⟩
  · simp [p96, hp]
  · simp [p96, hp]
  · simp [p96, hp]
  · simp [p96, h1, h2]
abbrev l96 : Nat → Nat → Prop := l93
theorem c96_fin {M : zM} {a : Int} {n : Nat} {D : Nat → Nat → Int} {L F P G sl : Nat → Int} {w0 : Int} {e x : Nat} {md wt hd cu en tl : Int} {R : Option zV → zM → Prop} (hn : 1 ≤ n) (hB : okB n D L F) (ha : M.1 18 0 0 = a) (ha1 : 1 ≤ a ∧ a ≤ 1000) (hx : x ≤ 1000000) (hr : mRow M (n - 1) (fun i => D (i + 1)) (fun i => L (i + 1)) (fun i => F (i + 1))) (hw : M.1 18 0 19 = 0) (hs : mRs M P G hd 0 cu (en + 1) (kSl (en + 1) P sl (if 0 ≤ cu then cu else 5)) tl) (hhd : hd = 0 ∨ hd = 1) (hcu : -1 ≤ cu ∧ cu ≤ 5)
    (h : ∀ M', zfr p96 l96 M M' → mS M' a (endB a (n, (D, L, F), (w0, e, x, md, wt), (P, G), (hd, 0, cu), (en, sl), tl)) → R none M') (x3 x4 : Int) (cl : Bool) : (zr (M.1 18 0 28)) ∧ (((M.1 18 0 28) < 0 → (zr (M.1 18 0 25)) ∧ ((¬ (M.1 18 0 25) = 0 → (zq R) (.inl none) M cl 0) ∧ ((M.1 18 0 25) = 0 → (zr (M.1 18 0 15)) ∧ (((M.1 18 0 15) ≤ 0 → (zq R) (.inl none) M cl 0) ∧ (¬ ((M.1 18 0 15) ≤ 0) → zF 93 [zR 18 0, zJ x] M (fun v M2 => v = none ∧ ∀ cl2 : Bool, (zq R) (.inl none) M2 cl2 0)))))) ∧ (¬ ((M.1 18 0 28) < 0) → zT 96 (156, [some (zR 18 0), some (zJ x), none, some (zI x3), some (zI x4), some (zI 0)], [], (z_w (z_w (z_w (z_w (z_w M 18 0 26 1) 18 0 28 (-1)) 18 0 25 0) 18 0 2 0) 18 0 15 0), false) (zq R))) := by
  have B1 := okB_sh hB
  have hs' := hs
  obtain ⟨s1, s2, s3, s4, s5, s6, s7⟩ := hs'
  simp only [endB] at h
  have h8 := hr.2.1
  rw [s4, s2, hr.1]
  refine ⟨by omega, fun c => ?_, fun c => ?_⟩
  · have ec : cu = -1 := by omega
    rw [if_pos ec] at h
    rw [if_neg (show ¬ 0 ≤ cu by omega)] at s6 hs
    refine ⟨by omega, fun c2 => ⟨rfl, ?_⟩, fun c2 => ⟨by omega, fun c3 => ⟨rfl, ?_⟩, fun c3 => ?_⟩⟩
    · rw [if_neg (fun q => c2 q.1)] at h
      exact h M (zfr.refl _ _ _) ⟨hr, ha, ⟨hw, fun q => absurd q (by decide)⟩, hs⟩
    · rw [if_neg (fun q => by omega)] at h
      exact h M (zfr.refl _ _ _) ⟨hr, ha, ⟨hw, fun q => absurd q (by decide)⟩, hs⟩
    · rw [if_pos ⟨c2, by omega⟩] at h
      refine c93 (P := P) hr B1 ha ha1 (by omega) hx (fun q hq => (s1 q hq).1) (fun M2 f2 wk2 => ⟨rfl, fun _ => ⟨rfl, ?_⟩⟩)
      have k2 : ∀ k, ¬ k = 18 → ¬ k = 29 → ∀ j s, M2.1 k j s = M.1 k j s := fun k h1 h2 j s => f2.1 k j s (by simp [p93, h1, h2])
      have k18 : ∀ s, ¬ s = 19 → ¬ s = 23 → ¬ s = 24 → M2.1 18 0 s = M.1 18 0 s := fun s h1 h2 h3 => f2.1 18 0 s (by simp [p93, h1, h2, h3])
      exact h M2 (f2.mono p93_96 (fun _ _ hp => hp)) ⟨mRow_eq (k18 15 (by omega) (by omega) (by omega)) (fun s => k2 26 (by omega) (by omega) _ _) (fun s => k2 27 (by omega) (by omega) _ _) (fun s => k2 28 (by omega) (by omega) _ _) hr, by rw [k18 0 (by omega) (by omega) (by omega)]; exact ha, wk2, mRs_eq (k18 25 (by omega) (by omega) (by omega)) (k18 26 (by omega) (by omega) (by omega)) (k18 28 (by omega) (by omega) (by omega)) (k18 29 (by omega) (by omega) (by omega)) (k18 2 (by omega) (by omega) (by omega)) (fun s => k2 23 (by omega) (by omega) _ _) (fun s => k2 24 (by omega) (by omega) _ _) (fun s => k2 30 (by omega) (by omega) _ _) hs⟩
  · have ec : ¬ cu = -1 := by omega
    rw [if_neg ec] at h
    rw [if_pos (show 0 ≤ cu by omega)] at s6
    refine g96_156a0 (g96_156a1 (g96_156a2 (g96_156a3 ⟨rfl, ?_⟩)))
    refine h _ (((((((((zfr.refl _ _ _).w 18 0 26 _ (by simp [p96])).w 18 0 28 _ (by simp [p96])).w 18 0 25 _ (by simp [p96])).w 18 0 2 _ (by simp [p96])).w 18 0 15 _ (by simp [p96])).w 24 0 0 _ (by simp [p96])).w 24 0 1 _ (by simp [p96])).w 24 0 2 _ (by simp [p96])) ⟨⟨rfl, by omega, hr.2.2.1, fun i hi => by omega⟩, ha, ⟨hw, fun q => absurd q (by decide)⟩, fun q hq => ?_, rfl, rfl, rfl, s5, s6, rfl⟩
    rcases (show q = 0 ∨ q = 1 ∨ q = 2 by omega) with e | e | e <;> subst e
    · exact ⟨(s1 0 (by omega)).1, (s1 0 (by omega)).1⟩
    · exact ⟨(s1 1 (by omega)).1, (s1 1 (by omega)).1⟩
    · exact ⟨(s1 2 (by omega)).1, (s1 2 (by omega)).1⟩
theorem c96 {M : zM} {a : Int} {n : Nat} {D : Nat → Nat → Int} {L F P G sl : Nat → Int} {w0 : Int} {e x : Nat} {md wt hd cu en tl : Int} {R : Option zV → zM → Prop} (hr : mRow M n D L F) (hB : okB n D L F) (hn : 1 ≤ n) (ha : M.1 18 0 0 = a) (ha1 : 1 ≤ a ∧ a ≤ 1000) (hx : M.2.1 18 0 21 = (x : Int)) (hxb : x ≤ 1000000)
    (hs : mRs M P G hd 0 cu en sl tl) (hhd : hd = 0 ∨ hd = 1) (hcu : -1 ≤ cu ∧ cu ≤ 5) (hen : 0 ≤ en ∧ en ≤ 100000)
    (h : ∀ M', zfr p96 l96 M M' → mS M' a (endB a (n, (D, L, F), (w0, e, x, md, wt), (P, G), (hd, 0, cu), (en, sl), tl)) → R none M') : zF 96 [zR 18 0] M R := by
  obtain ⟨s1, s2, s3, s4, s5, s6, s7⟩ := hs
  refine g96_0 ?_
  rw [hx]
  refine c95 (M := z_w M 18 0 19 0) (mRow_eq rfl (fun s => rfl) (fun s => rfl) (fun s => rfl) hr) hn (fun M1 f1 r1 => ⟨rfl, fun _ => ?_⟩)
  have f01 : zfr p96 l96 M M1 := ((zfr.refl p96 l96 M).w 18 0 19 _ (by simp [p96])).trans (f1.mono p95_96 (fun _ _ hp => hp.elim))
  have k1 : ∀ k, ¬ k = 18 → ¬ k = 26 → ¬ k = 27 → ¬ k = 28 → ∀ j s, M1.1 k j s = M.1 k j s := fun k h1 h2 h3 h4 j s => by
    rw [f1.1 k j s (by simp [p95, h1, h2, h3, h4]), z_w_get_ne (fun q => h1 q.1)]
  have k18 : ∀ s, ¬ s = 15 → ¬ s = 19 → M1.1 18 0 s = M.1 18 0 s := fun s h1 h2 => by
    rw [f1.1 18 0 s (by simp [p95, h1]), z_w_get_ne (fun q => h2 q.2.2)]
  have w1 : M1.1 18 0 19 = 0 := by rw [f1.1 18 0 19 (by simp [p95])]; rfl
  obtain ⟨b, hb⟩ : ∃ b : Nat, (b : Int) = 4 * ((en + 1) % 2) := ⟨(4 * ((en + 1) % 2)).toNat, by omega⟩
  have hbn : ((en + 1) % 2 * 4).toNat = b := by omega
  have hb4 : b ≤ 4 := by omega
  -- what is kept, word by word
  have fin : ∀ (wd : Int) (M2 : zM) (cl : Bool), wd = (if 0 ≤ cu then cu else 5) → zfr (fun k _ => k = 30) zno (z_w M1 18 0 29 (en + 1)) M2 → (∀ k, k < 8 → M2.1 30 0 k = kSl (en + 1) P sl wd k) → (zr (M2.1 18 0 28)) ∧ (((M2.1 18 0 28) < 0 → (zr (M2.1 18 0 25)) ∧ ((¬ (M2.1 18 0 25) = 0 → (zq R) (.inl none) M2 cl 0) ∧ ((M2.1 18 0 25) = 0 → (zr (M2.1 18 0 15)) ∧ (((M2.1 18 0 15) ≤ 0 → (zq R) (.inl none) M2 cl 0) ∧ (¬ ((M2.1 18 0 15) ≤ 0) → zF 93 [zR 18 0, zJ x] M2 (fun v M2 => v = none ∧ ∀ cl2 : Bool, (zq R) (.inl none) M2 cl2 0)))))) ∧ (¬ ((M2.1 18 0 28) < 0) → zT 96 (156, [some (zR 18 0), some (zJ x), none, some (zI b), some (zI wd), some (zI 0)], [], (z_w (z_w (z_w (z_w (z_w M2 18 0 26 1) 18 0 28 (-1)) 18 0 25 0) 18 0 2 0) 18 0 15 0), false) (zq R))) := by
    intro wd M2 cl hwd f2 sl2
    have k2 : ∀ k, ¬ k = 30 → ¬ k = 18 → ∀ j s, M2.1 k j s = M1.1 k j s := fun k h1 h2 j s => by rw [f2.1 k j s h1, z_w_get_ne (fun q => h2 q.1)]
    have k218 : ∀ s, ¬ s = 29 → M2.1 18 0 s = M1.1 18 0 s := fun s h1 => by rw [f2.1 18 0 s (by simp), z_w_get_ne (fun q => h1 q.2.2)]
    have f02 : zfr p96 l96 M M2 := (f01.w 18 0 29 _ (by simp [p96])).trans (f2.mono (fun k s hp => by simp [p96, hp]) (fun _ _ hp => hp.elim))
    rw [hwd] at sl2
    refine c96_fin (w0 := w0) (e := e) (md := md) (wt := wt) (sl := sl) (en := en) hn hB (by rw [k218 0 (by omega), k18 0 (by omega) (by omega)]; exact ha) ha1 hxb (mRow_eq (k218 15 (by omega)) (fun s => k2 26 (by omega) (by omega) _ _) (fun s => k2 27 (by omega) (by omega) _ _) (fun s => k2 28 (by omega) (by omega) _ _) r1) (by rw [k218 19 (by omega)]; exact w1) ⟨fun q hq => ?_, ?_, ?_, ?_, ?_, sl2, ?_⟩ hhd hcu (fun M3 f3 s3 => h M3 (f02.trans f3) s3) _ _ cl
    · rw [k2 23 (by omega) (by omega), k2 24 (by omega) (by omega), k1 23 (by omega) (by omega) (by omega) (by omega), k1 24 (by omega) (by omega) (by omega) (by omega)]; exact s1 q hq
    · rw [k218 25 (by omega), k18 25 (by omega) (by omega)]; exact s2
    · rw [k218 26 (by omega), k18 26 (by omega) (by omega)]; exact s3
    · rw [k218 28 (by omega), k18 28 (by omega) (by omega)]; exact s4
    · rw [f2.1 18 0 29 (by decide), z_w_get_eq]
    · rw [k218 2 (by omega), k18 2 (by omega) (by omega)]; exact s7
  have go : ∀ (wd : Int) (cl : Bool), wd = (if 0 ≤ cu then cu else 5) → 0 ≤ wd ∧ wd ≤ 5 → zT 96 (53, [some (zR 18 0), some (zJ x), none, some (zI b), some (zI wd), some (zI 0)], [], z_w M1 18 0 29 (en + 1), cl) (zq R) := by
    intro wd cl hwd hwr
    have k23 : ∀ (M2 : zM) (q : Nat), zfr (fun k _ => k = 30) zno (z_w M1 18 0 29 (en + 1)) M2 → q < 3 → M2.1 23 0 q = P q := fun M2 q f2 hq => by
      rw [f2.1 23 0 q (by simp), z_w_get_ne (fun q => by omega), k1 23 (by omega) (by omega) (by omega) (by omega)]; exact (s1 q hq).1
    have g0 : ∀ k, k < 8 → (z_w M1 18 0 29 (en + 1)).1 30 0 k = sl k := fun k hk => by rw [z_w_get_ne (fun q => by omega), k1 30 (by omega) (by omega) (by omega) (by omega)]; exact s6 k hk
    have f0 : zfr (fun k _ => k = 30) zno (z_w M1 18 0 29 (en + 1)) (z_w M1 18 0 29 (en + 1)) := zfr.refl _ _ _
    have e29 : ∀ (M2 : zM), zfr (fun k _ => k = 30) zno (z_w M1 18 0 29 (en + 1)) M2 → M2.1 18 0 29 = en + 1 := fun M2 f2 => by rw [f2.1 18 0 29 (by decide), z_w_get_eq]
    generalize z_w M1 18 0 29 (en + 1) = N0 at *
    refine g96_53a0 ⟨by omega, fun c => fin wd _ _ hwd f0 (by unfold kSl; rw [hbn]; exact (kU_f (by omega) (kU_f (by omega) (kU_f (by omega) (kU_f (by omega) (kU_f (by omega) g0)))))), fun c => ⟨by omega, ?_⟩⟩
    rw [show ((b : Int) + 3).toNat = b + 3 by omega]
    have g1 := kU_t (M := N0) (z := 30) (i := b + 3) (v := 0) (c := 0 < wd) (by omega) g0
    have f1 : zfr (fun k _ => k = 30) zno N0 (z_w N0 30 0 (b + 3) 0) := f0.w 30 0 _ _ rfl
    generalize z_w N0 30 0 (b + 3) 0 = N1 at g1 f1 ⊢
    refine g96_53a1 ⟨by omega, fun c => fin wd _ _ hwd f1 (by unfold kSl; rw [hbn]; exact (kU_f (by omega) (kU_f (by omega) (kU_f (by omega) (kU_f (by omega) g1))))), fun c => ⟨by omega, ?_⟩⟩
    rw [show ((b : Int) + 1 - 1).toNat = b + 0 by omega, k23 N1 0 f1 (by omega)]
    have g2 := kU_t (M := N1) (z := 30) (i := b + 0) (v := (P 0)) (c := 1 < wd) (by omega) g1
    have f2 : zfr (fun k _ => k = 30) zno N0 (z_w N1 30 0 (b + 0) (P 0)) := f1.w 30 0 _ _ rfl
    generalize z_w N1 30 0 (b + 0) (P 0) = N2 at g2 f2 ⊢
    refine g96_53a2 ⟨by omega, fun c => fin wd _ _ hwd f2 (by unfold kSl; rw [hbn]; exact (kU_f (by omega) (kU_f (by omega) (kU_f (by omega) g2)))), fun c => ⟨by omega, ?_⟩⟩
    rw [show ((b : Int) + 2 - 1).toNat = b + 1 by omega, k23 N2 1 f2 (by omega)]
    have g3 := kU_t (M := N2) (z := 30) (i := b + 1) (v := (P 1)) (c := 2 < wd) (by omega) g2
    have f3 : zfr (fun k _ => k = 30) zno N0 (z_w N2 30 0 (b + 1) (P 1)) := f2.w 30 0 _ _ rfl
    generalize z_w N2 30 0 (b + 1) (P 1) = N3 at g3 f3 ⊢
    refine g96_53a3 ⟨by omega, fun c => fin wd _ _ hwd f3 (by unfold kSl; rw [hbn]; exact (kU_f (by omega) (kU_f (by omega) g3))), fun c => ⟨by omega, ?_⟩⟩
    rw [show ((b : Int) + 3 - 1).toNat = b + 2 by omega, k23 N3 2 f3 (by omega)]
    have g4 := kU_t (M := N3) (z := 30) (i := b + 2) (v := (P 2)) (c := 3 < wd) (by omega) g3
    have f4 : zfr (fun k _ => k = 30) zno N0 (z_w N3 30 0 (b + 2) (P 2)) := f3.w 30 0 _ _ rfl
    generalize z_w N3 30 0 (b + 2) (P 2) = N4 at g4 f4 ⊢
    refine g96_53a4 ⟨by omega, fun c => fin wd _ _ hwd f4 (by unfold kSl; rw [hbn]; exact (kU_f (by omega) g4)), fun c => ⟨by omega, ?_⟩⟩
    rw [show ((b : Int) + 3).toNat = b + 3 by omega, e29 N4 f4]
    have g5 := kU_t (M := N4) (z := 30) (i := b + 3) (v := (en + 1)) (c := 4 < wd) (by omega) g4
    have f5 : zfr (fun k _ => k = 30) zno N0 (z_w N4 30 0 (b + 3) (en + 1)) := f4.w 30 0 _ _ rfl
    generalize z_w N4 30 0 (b + 3) (en + 1) = N5 at g5 f5 ⊢
    refine g96_53a5 ⟨by omega, fun c => fin wd _ _ hwd f5 (by unfold kSl; rw [hbn]; exact g5), fun c => by omega⟩
  rw [k18 29 (by omega) (by omega), s5, k18 28 (by omega) (by omega), s4, ← hb]
  refine ⟨by omega, by omega, fun c => go cu _ (by rw [if_pos c]) (by omega), fun c => go 5 _ (by rw [if_neg c]) (by omega)⟩
