-- The reference carries a command out. (own work)
abbrev sM (k s : Nat) : Prop := (k = 18 ∧ (s = 0 ∨ s = 2 ∨ s = 15 ∨ s = 19 ∨ s = 23 ∨ s = 24 ∨ s = 25 ∨ s = 26 ∨ s = 28 ∨ s = 29)) ∨ k = 23 ∨ k = 24 ∨ (26 ≤ k ∧ k ≤ 30)
abbrev sNq (k s : Nat) : Prop := (k = 18 ∧ (s = 8 ∨ s = 9 ∨ s = 10 ∨ s = 27)) ∨ k = 22
abbrev pHi : Nat → Nat → Prop := fun k s => 18 ≤ k ∧ k < 31 ∧ ¬ (k = 18 ∧ s = 1)
theorem mS_eq {M M' : zM} {a : Int} {s : aS} (k : ∀ k j s, sM k s → M'.1 k j s = M.1 k j s) (l : M'.2.1 = M.2.1) (hs : mS M a s) : mS M' a s := by
  obtain ⟨n, ⟨D, L, F⟩, ⟨w, e, x, md, wt⟩, ⟨P', G⟩, ⟨hd, of, cu⟩, ⟨en, sl⟩, tl⟩ := s
  obtain ⟨h1, h2, ⟨h3, h5⟩, hrs⟩ := hs
  refine ⟨mRow_eq (k 18 0 15 (by simp [sM])) (fun s => k 26 0 s (by simp [sM])) (fun s => k 27 0 s (by simp [sM])) (fun s => k 28 0 s (by simp [sM])) h1, by rw [k 18 0 0 (by simp [sM])]; exact h2, ⟨by rw [k 18 0 19 (by simp [sM])]; exact h3, fun c => ?_⟩, mRs_eq (k 18 0 25 (by simp [sM])) (k 18 0 26 (by simp [sM])) (k 18 0 28 (by simp [sM])) (k 18 0 29 (by simp [sM])) (k 18 0 2 (by simp [sM])) (fun s => k 23 0 s (by simp [sM])) (fun s => k 24 0 s (by simp [sM])) (fun s => k 30 0 s (by simp [sM])) hrs⟩
  obtain ⟨g1, g2, g3, g4, g5⟩ := h5 c
  rw [l, k 18 0 23 (by simp [sM]), k 18 0 24 (by simp [sM])]
  exact ⟨g1, g2, g3, g4, fun q hq => by rw [k 29 0 q (by simp [sM])]; exact g5 q hq⟩
theorem mQ_eq {M M' : zM} {q : aQ} (k : ∀ k j s, sNq k s → M'.1 k j s = M.1 k j s) (h : mQ M q) : mQ M' q := by
  obtain ⟨wn, sp, df, Z, lo⟩ := q
  obtain ⟨h1, h2, h3, h4, h5⟩ := h
  refine ⟨?_, ?_, ?_, fun q hq => ?_, ?_⟩
  · rw [k 18 0 8 (by simp [sNq])]; exact h1
  · rw [k 18 0 10 (by simp [sNq])]; exact h2
  · rw [k 18 0 9 (by simp [sNq])]; exact h3
  · rw [k 22 0 q (by simp [sNq])]; exact h4 q hq
  · rw [k 18 0 27 (by simp [sNq])]; exact h5
theorem mS_n {M : zM} {a : Int} {s : aS} (h : mS M a s) : M.1 18 0 15 = (s.1 : Int) := by
  obtain ⟨n, ⟨D, L, F⟩, ⟨w, e, x, md, wt⟩, ⟨P, G⟩, ⟨hd, of, cu⟩, ⟨en, sl⟩, tl⟩ := s
  exact h.1.1
theorem mS_24 {M : zM} {a : Int} {s : aS} (h : mS M a s) : ∀ q, q < 3 → M.1 24 0 q = aG s q := by
  obtain ⟨n, ⟨D, L, F⟩, ⟨w, e, x, md, wt⟩, ⟨P, G⟩, ⟨hd, of, cu⟩, ⟨en, sl⟩, tl⟩ := s
  exact fun q hq => (h.2.2.2.1 q hq).2
theorem mS_b {M : zM} {a : Int} {s : aS} (h : mS M a s) : ∀ j, j < 27 → -500 ≤ M.1 26 0 j ∧ M.1 26 0 j ≤ 500 := by
  obtain ⟨n, ⟨D, L, F⟩, ⟨w, e, x, md, wt⟩, ⟨P, G⟩, ⟨hd, of, cu⟩, ⟨en, sl⟩, tl⟩ := s
  exact h.1.2.2.1
abbrev pMd : Nat → Nat → Prop := fun k s => k = 24 ∨ k = 25 ∨ k = 26 ∨ k = 27 ∨ k = 28 ∨ (k = 18 ∧ (s = 10 ∨ s = 15))
theorem m_add {M M' : zM} {a K : Int} {s : aS} {d G' : Nat → Int} {l f : Int} (hs : mS M a s) (hi : iS a K s) (hn : s.1 < 8) (hf : zfr pMd zno M M') (h26 : ∀ j, j < 3 * s.1 → M'.1 26 0 j = M.1 26 0 j) (h26b : ∀ j, j < 27 → -500 ≤ M'.1 26 0 j ∧ M'.1 26 0 j ≤ 500) (hd : 1 ≤ f → ∀ q, q < 3 → M'.1 26 0 (3 * s.1 + q) = d q)
    (h27 : ∀ j, ¬ j = s.1 → M'.1 27 0 j = M.1 27 0 j) (h27n : M'.1 27 0 s.1 = f) (h28 : ∀ j, ¬ j = s.1 → M'.1 28 0 j = M.1 28 0 j) (h28n : f = 0 → M'.1 28 0 s.1 = l) (h15 : M'.1 18 0 15 = ((s.1 + 1 : Nat) : Int)) (hG : ∀ q, q < 3 → M'.1 24 0 q = G' q) : mS M' a (addB s d l f G') := by
  obtain ⟨n, ⟨D, L, F⟩, ⟨w, e, x, md, wt⟩, ⟨P, G⟩, ⟨hdd, of, cu⟩, ⟨en, sl⟩, tl⟩ := s
  dsimp only at hn h26 hd h27 h27n h28 h28n h15
  obtain ⟨h1, h2, ⟨h3, h5⟩, g1, g2, g3, g4, g5, g6, g7⟩ := hs
  obtain ⟨i1, i2, i3, ⟨i41, i42⟩, i5⟩ := hi
  have k18 : ∀ s, ¬ s = 10 → ¬ s = 15 → M'.1 18 0 s = M.1 18 0 s := fun s c1 c2 => hf.1 18 0 s (by simp [pMd, c1, c2])
  have kk : ∀ k, ¬ (24 ≤ k ∧ k ≤ 28) → ¬ k = 18 → ∀ s, M'.1 k 0 s = M.1 k 0 s := fun k c1 c2 s => hf.1 k 0 s (by unfold pMd; omega)
  refine ⟨⟨h15, by omega, h26b, fun i hi => ?_⟩, by rw [k18 0 (by omega) (by omega)]; exact h2, ⟨by rw [k18 19 (by omega) (by omega)]; exact h3, fun c => ?_⟩, fun q hq => ⟨?_, hG q hq⟩, ?_, ?_, ?_, ?_, fun q hq => ?_, ?_⟩
  · unfold mF mB
    by_cases ei : i = n
    · subst ei
      dsimp only
      rw [if_pos rfl, if_pos rfl, if_pos rfl]
      exact ⟨h27n, h28n, hd⟩
    · dsimp only
      rw [if_neg ei, if_neg ei, if_neg ei, h27 i ei, h28 i ei]
      have hh := h1.2.2.2 i (by omega)
      unfold mF mB at hh
      exact ⟨hh.1, hh.2.1, fun c q hq => by rw [h26 (3 * i + q) (by omega)]; exact hh.2.2 c q hq⟩
  · obtain ⟨j1, j2⟩ := i42 c
    obtain ⟨q1, q2, q3, q4, q5⟩ := h5 c
    rw [hf.2.1 18 0 20 (by simp), hf.2.1 18 0 21 (by simp), k18 23 (by omega) (by omega), k18 24 (by omega) (by omega)]
    refine ⟨q1, q2, q3, q4, fun q hq => ?_⟩
    dsimp only
    rw [kk 29 (by omega) (by omega), if_neg (by omega), if_neg (by omega)]; exact q5 q hq
  · rw [kk 23 (by omega) (by omega)]; exact (g1 q hq).1
  · rw [k18 25 (by omega) (by omega)]; exact g2
  · rw [k18 26 (by omega) (by omega)]; exact g3
  · rw [k18 28 (by omega) (by omega)]; exact g4
  · rw [k18 29 (by omega) (by omega)]; exact g5
  · rw [kk 30 (by omega) (by omega)]; exact g6 q hq
  · rw [k18 2 (by omega) (by omega)]; exact g7
theorem c61 {M : zM} {a K : Int} {s s' : aS} {q q' : aQ} {l v : Nat → Int} {W : Nat} {out : Int} {R : Option zV → zM → Prop} (hs : mS M a s) (hi : iS a K s) (hq : mQ M q) (hiq : iQ q) (hT : mW M l v W) (hw : wds l v W) (hk : cOk l v W) (hv : v 1 = 1) (hr : cmR l v W s q out s' q')
    (h : ∀ (M' : zM), zfr pHi zno M M' → mS M' a s' → mQ M' q' → R (some (zI out)) M') : zF 61 [zR 18 0] M R := by
  have hW := hk.1
  have hr1 : ((¬ mvP l v W s q ∧ out = -3 ∧ s' = s ∧ q' = q) ∨ (mvP l v W s q ∧ mvS l v W s q ∧ s.1 = 8 ∧ out = -2 ∧ s' = s ∧ q' = q) ∨ (mvP l v W s q ∧ ¬ mvS l v W s q ∧ out = 0 ∧ s' = s ∧ q' = qSp l v W q) ∨
    (mvP l v W s q ∧ mvS l v W s q ∧ s.1 < 8 ∧ out = 0 ∧ s' = addB s (fun a => mTg l v W s q a - aG s a) (len3 (fun a => mTg l v W s q a - aG s a)) (qSp l v W q).2.1 (mTg l v W s q) ∧ q' = qSp l v W q)) := by
    rcases hr with hr | hr | hr | hr
    · exact hr.2
    · omega
    · omega
    · omega
  obtain ⟨wn, sp, df, Z, lo⟩ := q
  have hq' := hq
  obtain ⟨u1, u2, u3, u4, u5⟩ := hq'
  obtain ⟨v1, v2, v3, v4, v5⟩ := hiq
  have g24 := mS_24 hs
  have gG := iS_G hi
  have hspr := sp_r hk v2
  have et : ∀ q, q < 3 → mtg M l v W q = mTg l v W s (wn, sp, df, Z, lo) q := by
    intro q hq
    unfold mtg mTg
    rw [u3, g24 q hq, u4 q hq]
  have e0 := et 0 (by omega); have e1 := et 1 (by omega); have e2 := et 2 (by omega)
  have f1 : zfr (fun k _ => k = 25) zno M (z_w (z_w (z_w M 25 0 0 (mTg l v W s (wn, sp, df, Z, lo) 0)) 25 0 1 (mTg l v W s (wn, sp, df, Z, lo) 1)) 25 0 2 (mTg l v W s (wn, sp, df, Z, lo) 2)) := (((zfr.refl _ _ _).w 25 0 0 _ rfl).w 25 0 1 _ rfl).w 25 0 2 _ rfl
  have t1 : ∀ q, q < 3 → (z_w (z_w (z_w M 25 0 0 (mTg l v W s (wn, sp, df, Z, lo) 0)) 25 0 1 (mTg l v W s (wn, sp, df, Z, lo) 1)) 25 0 2 (mTg l v W s (wn, sp, df, Z, lo) 2)).1 25 0 q = mTg l v W s (wn, sp, df, Z, lo) q := by
    intro q hq
    rcases (show q = 0 ∨ q = 1 ∨ q = 2 by omega) with e | e | e <;> subst e <;> rfl
  have m1 : mW (z_w (z_w (z_w M 25 0 0 (mTg l v W s (wn, sp, df, Z, lo) 0)) 25 0 1 (mTg l v W s (wn, sp, df, Z, lo) 1)) 25 0 2 (mTg l v W s (wn, sp, df, Z, lo) 2)) l v W := hT
  refine g61_0 (c60 hT hw hW (fun q hq => by rw [g24 q hq]; have := gG q hq; omega) (fun q hq => by rw [u4 q hq]; have := v4 q hq; omega) (by rw [u3]; exact v3) (fun hp => ⟨_, rfl, fun _ => ?_⟩) (fun hp => ⟨_, rfl, fun _ => ?_⟩))
  rotate_left
  · rw [e0, e1, e2]
    generalize z_w (z_w (z_w M 25 0 0 (mTg l v W s (wn, sp, df, Z, lo) 0)) 25 0 1 (mTg l v W s (wn, sp, df, Z, lo) 1)) 25 0 2 (mTg l v W s (wn, sp, df, Z, lo) 2) = N at *
    have hP : ¬ mvP l v W s (wn, sp, df, Z, lo) := fun c => hp (fun q hq => by rw [et q hq, g24 q hq]; exact c q hq)
    refine ⟨by omega, fun c => absurd rfl c, fun _ => ⟨rfl, ?_⟩⟩
    rcases hr1 with c | c | c | c
    · obtain ⟨_, o1, o2, o3⟩ := c
      subst o1; subst o2; subst o3
      exact h N (f1.mono (fun k q hp => by show 18 ≤ k ∧ k < 31 ∧ ¬ (k = 18 ∧ q = 1); omega) (fun _ _ hp => hp)) (mS_eq (fun k j q hq => f1.1 k j q (by unfold sM at hq; omega)) (by funext k j q; exact f1.2.1 k j q (by simp)) hs) (mQ_eq (fun k j q hq => f1.1 k j q (by unfold sNq at hq; omega)) hq)
    · exact absurd c.1 hP
    · exact absurd c.1 hP
    · exact absurd c.1 hP
  · rw [e0, e1, e2]
    generalize z_w (z_w (z_w M 25 0 0 (mTg l v W s (wn, sp, df, Z, lo) 0)) 25 0 1 (mTg l v W s (wn, sp, df, Z, lo) 1)) 25 0 2 (mTg l v W s (wn, sp, df, Z, lo) 2) = N at *
    have hP : mvP l v W s (wn, sp, df, Z, lo) := fun q hq => by
      have := hp q hq
      rw [et q hq, g24 q hq] at this; exact this
    have fN : zfr pHi zno M N := f1.mono (fun k q hp => by show 18 ≤ k ∧ k < 31 ∧ ¬ (k = 18 ∧ q = 1); omega) (fun _ _ hp => hp)
    have sN : mS N a s := mS_eq (fun k j q hq => f1.1 k j q (by unfold sM at hq; omega)) (by funext k j q; exact f1.2.1 k j q (by simp)) hs
    have qN : mQ N (wn, sp, df, Z, lo) := mQ_eq (fun k j q hq => f1.1 k j q (by unfold sNq at hq; omega)) hq
    have nN := mS_n sN
    have gN := mS_24 sN
    have n8 := iS_n hi
    have spN : N.1 18 0 10 = sp := qN.2.1
    have G0 := gN 0 (by omega); have G1 := gN 1 (by omega); have G2 := gN 2 (by omega)
    have T0 := t1 0 (by omega); have T1 := t1 1 (by omega); have T2 := t1 2 (by omega)
    have r0 := gG 0 (by omega); have r1 := gG 1 (by omega); have r2 := gG 2 (by omega)
    have P0 := hP 0 (by omega); have P1 := hP 1 (by omega); have P2 := hP 2 (by omega)
    -- a move that moves, and a row with room or without
    have mv : mvS l v W s (wn, sp, df, Z, lo) → (zr (s.1 : Int) ∧ zr 8) ∧ ((¬ (s.1 : Int) = 8 → zF 56 [zR 18 0, zI 70, zI sp] N (fun v M2 => ∃ r2 : Int, v = some (zI r2) ∧ ∀ cl2 : Bool, (z_wi ((3 * (M2.1 18 0 15)) + 0) 27) ∧ ((z_wi ((3 * (M2.1 18 0 15)) + 1) 27) ∧ ((z_wi ((3 * (M2.1 18 0 15)) + 2) 27) ∧ ((z_wi (M2.1 18 0 15) 9) ∧ ((zq R) (.inl (some (zI 0))) (z_w (z_w (z_w (z_w (z_w (z_w (z_w (z_w (z_w M2 18 0 10 r2) 26 0 (((3 * (M2.1 18 0 15)) + 0).toNat) ((M2.1 25 0 0) - (M2.1 24 0 0))) 24 0 0 (M2.1 25 0 0)) 26 0 (((3 * (M2.1 18 0 15)) + 1).toNat) ((M2.1 25 0 1) - (M2.1 24 0 1))) 24 0 1 (M2.1 25 0 1)) 26 0 (((3 * (M2.1 18 0 15)) + 2).toNat) ((M2.1 25 0 2) - (M2.1 24 0 2))) 24 0 2 (M2.1 25 0 2)) 27 0 ((M2.1 18 0 15).toNat) r2) 18 0 15 ((M2.1 18 0 15) + 1)) false 0)))))) ∧ ((s.1 : Int) = 8 → ∀ cl1 : Bool, (zq R) (.inl (some (zI (-2)))) N cl1 0)) := by
      intro hS
      refine ⟨by omega, fun c => ?_, fun c cl1 => ⟨rfl, ?_⟩⟩
      · have hc : s.1 < 8 ∧ out = 0 ∧ s' = addB s (fun a => mTg l v W s (wn, sp, df, Z, lo) a - aG s a) (len3 (fun a => mTg l v W s (wn, sp, df, Z, lo) a - aG s a)) (qSp l v W (wn, sp, df, Z, lo)).2.1 (mTg l v W s (wn, sp, df, Z, lo)) ∧ q' = qSp l v W (wn, sp, df, Z, lo) := by
          rcases hr1 with z | z | z | z
          · exact absurd hP z.1
          · omega
          · exact absurd hS z.2.1
          · exact z.2.2
        obtain ⟨c8, o1, o2, o3⟩ := hc
        subst o1; subst o2; subst o3
        refine c56 m1 hw (by omega) hW ⟨_, rfl, fun _ => ?_⟩
        rw [nN, T0, T1, T2, G0, G1, G2]
        refine ⟨by omega, by omega, by omega, by omega, rfl, ?_⟩
        rw [show (3 * (s.1 : Int) + 0).toNat = 3 * s.1 + 0 by omega, show (3 * (s.1 : Int) + 1).toNat = 3 * s.1 + 1 by omega, show (3 * (s.1 : Int) + 2).toNat = 3 * s.1 + 2 by omega, show ((s.1 : Int)).toNat = s.1 by omega]
        have hB := mS_b sN
        have fE : zfr pMd zno N (z_w (z_w (z_w (z_w (z_w (z_w (z_w (z_w (z_w N 18 0 10 (tdOf l v 70 sp W)) 26 0 (3 * s.1 + 0) (mTg l v W s (wn, sp, df, Z, lo) 0 - aG s 0)) 24 0 0 (mTg l v W s (wn, sp, df, Z, lo) 0)) 26 0 (3 * s.1 + 1) (mTg l v W s (wn, sp, df, Z, lo) 1 - aG s 1)) 24 0 1 (mTg l v W s (wn, sp, df, Z, lo) 1)) 26 0 (3 * s.1 + 2) (mTg l v W s (wn, sp, df, Z, lo) 2 - aG s 2)) 24 0 2 (mTg l v W s (wn, sp, df, Z, lo) 2)) 27 0 s.1 (tdOf l v 70 sp W)) 18 0 15 ((s.1 : Int) + 1)) :=
          (((((((((zfr.refl _ _ _).w 18 0 10 _ (by simp [pMd])).w 26 0 _ _ (by simp [pMd])).w 24 0 0 _ (by simp [pMd])).w 26 0 _ _ (by simp [pMd])).w 24 0 1 _ (by simp [pMd])).w 26 0 _ _ (by simp [pMd])).w 24 0 2 _ (by simp [pMd])).w 27 0 _ _ (by simp [pMd])).w 18 0 15 _ (by simp [pMd])
        have e26 : ∀ j, (z_w (z_w (z_w (z_w (z_w (z_w (z_w (z_w (z_w N 18 0 10 (tdOf l v 70 sp W)) 26 0 (3 * s.1 + 0) (mTg l v W s (wn, sp, df, Z, lo) 0 - aG s 0)) 24 0 0 (mTg l v W s (wn, sp, df, Z, lo) 0)) 26 0 (3 * s.1 + 1) (mTg l v W s (wn, sp, df, Z, lo) 1 - aG s 1)) 24 0 1 (mTg l v W s (wn, sp, df, Z, lo) 1)) 26 0 (3 * s.1 + 2) (mTg l v W s (wn, sp, df, Z, lo) 2 - aG s 2)) 24 0 2 (mTg l v W s (wn, sp, df, Z, lo) 2)) 27 0 s.1 (tdOf l v 70 sp W)) 18 0 15 ((s.1 : Int) + 1)).1 26 0 j = if j = 3 * s.1 + 2 then mTg l v W s (wn, sp, df, Z, lo) 2 - aG s 2 else if j = 3 * s.1 + 1 then mTg l v W s (wn, sp, df, Z, lo) 1 - aG s 1 else if j = 3 * s.1 + 0 then mTg l v W s (wn, sp, df, Z, lo) 0 - aG s 0 else N.1 26 0 j := by
          intro j
          simp [z_w_get]
        refine h _ ((fN.trans (fE.mono (fun k q hp => by show 18 ≤ k ∧ k < 31 ∧ ¬ (k = 18 ∧ q = 1); unfold pMd at hp; omega) (fun _ _ hp => hp)))) (m_add sN hi c8 fE (fun j hj => ?_) (fun j hj => ?_) (fun _ q hq => ?_) (fun j hj => ?_) ?_ (fun j hj => rfl) (fun c0 => ?_) ?_ (fun q hq => ?_)) ⟨qN.1, rfl, qN.2.2.1, qN.2.2.2.1, qN.2.2.2.2⟩
        · rw [e26, if_neg (by omega), if_neg (by omega), if_neg (by omega)]
        · rw [e26]
          split
          · exact P2.2
          · split
            · exact P1.2
            · split
              · exact P0.2
              · exact hB j hj
        · rw [e26]
          rcases (show q = 0 ∨ q = 1 ∨ q = 2 by omega) with e | e | e <;> subst e
          · rw [if_neg (by omega), if_neg (by omega), if_pos rfl]
          · rw [if_neg (by omega), if_pos rfl]
          · rw [if_pos rfl]
        · simp [z_w_get, hj]
        · simp [z_w_get]; rfl
        · have c0' : tdOf l v 70 sp W = 0 := c0
          omega
        · simp [z_w_get]
        · rcases (show q = 0 ∨ q = 1 ∨ q = 2 by omega) with e | e | e <;> subst e <;> simp [z_w_get]
      · rcases hr1 with z | z | z | z
        · exact absurd hP z.1
        · obtain ⟨_, _, _, o1, o2, o3⟩ := z
          subst o1; subst o2; subst o3
          exact h N fN sN qN
        · exact absurd hS z.2.1
        · omega
    have mv' : mvS l v W s (wn, sp, df, Z, lo) → ∀ cl1 : Bool, (zr (s.1 : Int) ∧ zr 8) ∧ ((¬ (s.1 : Int) = 8 → zF 56 [zR 18 0, zI 70, zI sp] N _) ∧ ((s.1 : Int) = 8 → (zq R) (.inl (some (zI (-2)))) N cl1 0)) := fun hS cl1 => ⟨(mv hS).1, (mv hS).2.1, fun c => (mv hS).2.2 c cl1⟩
    rw [T0, T1, T2, G0, G1, G2, nN, spN]
    refine ⟨by omega, fun _ => ⟨by omega, fun c => mv' (fun q => c q.1) true, fun c => ⟨by omega, fun c2 => mv' (fun q => c2 q.2.1) true, fun c2 => ⟨by omega, fun c3 => ?_, fun c3 => mv' (fun q => c3 q.2.2) true⟩⟩⟩, fun c => absurd c (by decide)⟩
    refine c56 m1 hw (by omega) hW ⟨_, rfl, fun _ => ⟨rfl, ?_⟩⟩
    rcases hr1 with z | z | z | z
    · exact absurd hP z.1
    · exact absurd ⟨c, c2, c3⟩ z.2.1
    · obtain ⟨_, _, o1, o2, o3⟩ := z
      subst o1; subst o2; subst o3
      exact h _ (fN.w 18 0 10 _ (by simp [pHi])) (mS_eq (fun k j q hq => z_w_get_ne (by unfold sM at hq; omega)) rfl sN) ⟨qN.1, rfl, qN.2.2.1, qN.2.2.2.1, qN.2.2.2.2⟩
    · exact absurd ⟨c, c2, c3⟩ z.2.1
theorem c62 {M : zM} {a K : Int} {s s' : aS} {q q' : aQ} {l v : Nat → Int} {W : Nat} {out : Int} {R : Option zV → zM → Prop} (hs : mS M a s) (hi : iS a K s) (hq : mQ M q) (hiq : iQ q) (hT : mW M l v W) (hw : wds l v W) (hk : cOk l v W) (hr : cmR l v W s q out s' q')
    (h : ∀ (M' : zM), zfr pHi zno M M' → mS M' a s' → mQ M' q' → R (some (zI out)) M') : zF 62 [zR 18 0] M R := by
  have hW := hk.1
  have hkn := hk.2.2.2.1
  unfold known at hkn
  have e21 : M.1 21 0 1 = v 1 := (hT.2 1 (by omega)).2
  have n8 := iS_n hi
  have nM := mS_n hs
  have g24 := mS_24 hs
  have dfc : ∀ d : Int, v 1 = 90 ∨ v 1 = 91 → d = (if v 1 = 91 then 1 else 0) → R (some (zI 0)) (z_w M 18 0 9 d) := by
    intro d hv hd
    rcases hr with c | c | c | c
    · omega
    · omega
    · omega
    · obtain ⟨_, o1, o2, o3⟩ := c
      subst o1; subst o2; subst o3
      obtain ⟨wn, sp, df, Z, lo⟩ := q
      rw [hd]
      exact h _ ((zfr.refl _ _ _).w 18 0 9 _ (by simp [pHi])) (mS_eq (fun k j q hq => z_w_get_ne (by unfold sM at hq; omega)) rfl hs) ⟨hq.1, hq.2.1, rfl, hq.2.2.2.1, hq.2.2.2.2⟩
  refine g62_0 ?_
  rw [e21, nM]
  refine ⟨by omega, fun c => ⟨by omega, fun c2 => ⟨rfl, dfc 0 (by omega) (by rw [if_neg c2])⟩, fun c2 => by omega⟩, fun c => ⟨by omega, fun c2 => ⟨by omega, fun c3 => ⟨by omega, fun c4 => ?_, fun c4 => ⟨by omega, fun c5 => ⟨by omega, by omega, rfl, ?_⟩, fun c5 => ⟨rfl, ?_⟩⟩⟩, fun c3 => ?_⟩, fun c2 => ⟨by omega, fun c3 => absurd c2 c3, fun _ => ⟨rfl, dfc 1 (by omega) (by rw [if_pos c2])⟩⟩⟩⟩
  · exact c61 hs hi hq hiq hT hw hk (by omega) hr (fun M' f' s2 q2 => ⟨_, rfl, fun _ => ⟨rfl, h M' f' s2 q2⟩⟩)
  · -- a dwell
    have h4 := (cOk_4 hW hk.2.1 c4).1 hk
    have etd : tdOf (fun i => l i) (fun i => v i) 80 0 W = v 2 := by
      rw [h4.1]
      show (if 2 ≤ 2 ∧ l 2 = 80 then v 2 else _) = v 2
      rw [if_pos ⟨by omega, h4.2.1⟩]
    have e22 : M.1 21 0 2 = v 2 := (hT.2 2 (by omega)).2
    rw [show ((s.1 : Int)).toNat = s.1 by omega, e22]
    rcases hr with z | z | z | z
    · omega
    · obtain ⟨_, z | z⟩ := z
      · omega
      · obtain ⟨c8, o1, o2, o3⟩ := z
        subst o1; subst o2; subst o3
        have fE : zfr pMd zno M (z_w (z_w (z_w M 27 0 s.1 0) 28 0 s.1 (v 2)) 18 0 15 ((s.1 : Int) + 1)) := (((zfr.refl _ _ _).w 27 0 _ _ (by simp [pMd])).w 28 0 _ _ (by simp [pMd])).w 18 0 15 _ (by simp [pMd])
        refine h _ (fE.mono (fun k q hp => by show 18 ≤ k ∧ k < 31 ∧ ¬ (k = 18 ∧ q = 1); unfold pMd at hp; omega) (fun _ _ hp => hp)) (m_add hs hi c8 fE (fun j hj => rfl) (fun j hj => mS_b hs j hj) (fun c0 => absurd c0 (by decide)) (fun j hj => ?_) ?_ (fun j hj => ?_) (fun _ => ?_) ?_ (fun q hq => g24 q hq)) (mQ_eq (fun k j q hq => ?_) hq)
        · simp [z_w_get, hj]
        · simp [z_w_get]
        · simp [z_w_get, hj]
        · rw [show tdOf l v 80 0 W = v 2 from etd]; simp [z_w_get]
        · simp [z_w_get]
        · rw [z_w_get_ne (by unfold sNq at hq; omega), z_w_get_ne (by unfold sNq at hq; omega), z_w_get_ne (by unfold sNq at hq; omega)]
    · omega
    · omega
  · rcases hr with z | z | z | z
    · omega
    · obtain ⟨_, z | z⟩ := z
      · obtain ⟨_, o1, o2, o3⟩ := z
        subst o1; subst o2; subst o3
        exact h M (zfr.refl _ _ _) hs hq
      · omega
    · omega
    · omega
  · rcases hr with z | z | z | z
    · omega
    · omega
    · obtain ⟨_, o1, o2, o3⟩ := z
      subst o1; subst o2; subst o3
      obtain ⟨wn, sp, df, Z, lo⟩ := q
      obtain ⟨u1, u2, u3, u4, u5⟩ := hq
      refine c62_a0 hT hw hW (fun _ => c62_a1 (M := z_w M 22 0 0 (ogn l v W (M.1 24 0 0) (M.1 22 0 0) 0)) hT hw hW (fun _ => c62_a2 (M := z_w (z_w M 22 0 0 (ogn l v W (M.1 24 0 0) (M.1 22 0 0) 0)) 22 0 1 (ogn l v W (M.1 24 0 1) (M.1 22 0 1) 1)) hT hw hW (fun _ => g62_45a3 ⟨rfl, ?_⟩)))
      refine h _ ((((zfr.refl _ _ _).w 22 0 0 _ (by simp [pHi])).w 22 0 1 _ (by simp [pHi])).w 22 0 2 _ (by simp [pHi])) (mS_eq (fun k j q hq => ?_) rfl hs) ⟨u1, u2, u3, fun q hq => ?_, u5⟩
      · have hk22 : ¬ k = 22 := by unfold sM at hq; omega
        rw [z_w_get_ne (fun c => hk22 c.1), z_w_get_ne (fun c => hk22 c.1), z_w_get_ne (fun c => hk22 c.1)]
      · have e15 := g24 q hq
        have e16 := u4 q hq
        dsimp only
        rw [← e15, ← e16]
        rcases (show q = 0 ∨ q = 1 ∨ q = 2 by omega) with e | e | e <;> subst e <;> rfl
    · omega
theorem mS_clT {M : zM} {a : Int} {s : aS} (h : mS M a s) : mS (z_w M 18 0 2 0) a (clT s) := by
  obtain ⟨n, ⟨D, L, F⟩, ⟨w, e, x, md, wt⟩, ⟨P, G⟩, ⟨hd, of, cu⟩, ⟨en, sl⟩, tl⟩ := s
  obtain ⟨r, ha, wk, h1, h2, h3, h4, h5, h6, h7⟩ := h
  exact ⟨mRow_eq rfl (fun s => rfl) (fun s => rfl) (fun s => rfl) r, ha, wk, h1, h2, h3, h4, h5, h6, rfl⟩
theorem iS_clT {a K : Int} {s : aS} (h : iS a K s) : iS a K (clT s) := by
  obtain ⟨n, ⟨D, L, F⟩, ⟨w, e, x, md, wt⟩, ⟨P, G⟩, ⟨hd, of, cu⟩, ⟨en, sl⟩, tl⟩ := s
  exact h
-- the text's length plays no part in a command
theorem cmR_clT {l v : Nat → Int} {W : Nat} {s s1 : aS} {q q1 : aQ} {out : Int} (h : cmR l v W s q out s1 q1) : cmR l v W (clT s) q out (clT s1) q1 := by
  obtain ⟨n, ⟨D, L, F⟩, ⟨w, e, x, md, wt⟩, ⟨P, G⟩, ⟨hd, of, cu⟩, ⟨en, sl⟩, tl⟩ := s
  rcases h with ⟨c, h | h | h | h⟩ | ⟨c, h | h⟩ | h | h
  · obtain ⟨h0, h1, h2, h3⟩ := h; subst h2; exact Or.inl ⟨c, Or.inl ⟨h0, h1, rfl, h3⟩⟩
  · obtain ⟨h0, g1, g2, h1, h2, h3⟩ := h; subst h2; exact Or.inl ⟨c, Or.inr (Or.inl ⟨h0, g1, g2, h1, rfl, h3⟩)⟩
  · obtain ⟨h0, g1, h1, h2, h3⟩ := h; subst h2; exact Or.inl ⟨c, Or.inr (Or.inr (Or.inl ⟨h0, g1, h1, rfl, h3⟩))⟩
  · obtain ⟨h0, g1, g2, h1, h2, h3⟩ := h; subst h2; exact Or.inl ⟨c, Or.inr (Or.inr (Or.inr ⟨h0, g1, g2, h1, rfl, h3⟩))⟩
  · obtain ⟨h0, h1, h2, h3⟩ := h; subst h2; exact Or.inr (Or.inl ⟨c, Or.inl ⟨h0, h1, rfl, h3⟩⟩)
  · obtain ⟨h0, h1, h2, h3⟩ := h; subst h2; exact Or.inr (Or.inl ⟨c, Or.inr ⟨h0, h1, rfl, h3⟩⟩)
  · obtain ⟨c, h1, h2, h3⟩ := h; subst h2; exact Or.inr (Or.inr (Or.inl ⟨c, h1, rfl, h3⟩))
  · obtain ⟨c, h1, h2, h3⟩ := h; subst h2; exact Or.inr (Or.inr (Or.inr ⟨c, h1, rfl, h3⟩))
theorem c63 {M : zM} {a K : Int} {s s' : aS} {q q' : aQ} {T : Nat → Int} {ans : Int} {R : Option zV → zM → Prop} (hs : mS M a s) (hi : iS a K s) (hq : mQ M q) (hiq : iQ q) (hT : mTx M T (aT s)) (hk : okT T (aT s)) (ho : aOf s = 0) (hl : q.2.2.2.2 = 0) (hr : rcR T s q ans s' q')
    (h : ∀ (M' : zM), zfr pHi zno (z_w M 18 0 1 0) M' → mS M' a s' → mQ M' q' → R (some (zI ans)) M') : zF 63 [zR 18 0] M R := by
  have e26 := mS_26 hs
  have e27 : M.1 18 0 27 = q.2.2.2.2 := by obtain ⟨wn, sp, df, Z, lo⟩ := q; exact hq.2.2.2.2
  have hwn : 0 ≤ q.1 ∧ q.1 ≤ 100000 := by obtain ⟨wn, sp, df, Z, lo⟩ := q; exact hiq.1
  refine g63_0 (c50 (by omega) (by omega) (fun _ _ => ⟨_, rfl, fun _ => ⟨by omega, fun _ => ?_, fun c => absurd c (by decide)⟩⟩) (fun c => by omega))
  have s0 : mS (z_w M 18 0 1 0) a s := mS_code hs
  have q0 : mQ (z_w M 18 0 1 0) q := mQ_eq (fun k j q hq => z_w_get_ne (by unfold sNq at hq; omega)) hq
  have T0 : mTx (z_w M 18 0 1 0) T (aT s) := hT
  generalize z_w M 18 0 1 0 = N at *
  have pre : ∀ M1, zfr p54 zno N M1 → zfr pHi zno N M1 ∧ mS M1 a s ∧ mQ M1 q := fun M1 f1 =>
    ⟨f1.mono (fun k s hp => by show 18 ≤ k ∧ k < 31 ∧ ¬ (k = 18 ∧ s = 1); unfold p54 at hp; omega) (fun _ _ hp => hp), mS_eq (fun k j q hq => f1.1 k j q (by unfold sM at hq; unfold p54; omega)) (by funext k j q; exact f1.2.1 k j q (by simp)) s0, mQ_eq (fun k j q hq => f1.1 k j q (by unfold sNq at hq; unfold p54; omega)) q0⟩
  have cl : ∀ (M1 : zM) (s1 : aS) (q1 : aQ), mS M1 a s1 → mQ M1 q1 → mS (z_w M1 18 0 2 0) a (clT s1) ∧ mQ (z_w M1 18 0 2 0) q1 := fun M1 s1 q1 h1 h2 => ⟨mS_clT h1, mQ_eq (fun k j q hq => z_w_get_ne (by unfold sNq at hq; omega)) h2⟩
  have bad : (¬ ∃ W, isFr T (aT s) W ∧ fV T (aT s) 0 = q.1) → ∀ M1, zfr p54 zno N M1 → R (some (zI (-1))) (z_w M1 18 0 2 0) := by
    intro hn M1 f1
    obtain ⟨p1, p2, p3⟩ := pre M1 f1
    rcases hr with z | z
    · obtain ⟨_, o1, o2, o3⟩ := z
      subst o1; subst o2; subst o3
      exact h _ (p1.w 18 0 2 _ (by simp [pHi])) (cl M1 s q' p2 p3).1 (cl M1 s q' p2 p3).2
    · obtain ⟨W, z1, z2, _⟩ := z
      exact absurd ⟨W, z1, z2⟩ hn
  refine c54 T0 hk (fun W M1 hF f1 e1 a1 => ⟨_, rfl, fun _ => ⟨by omega, fun c => absurd c (by decide), fun _ => ?_⟩⟩) (fun hF M1 f1 => ⟨_, rfl, fun _ => ⟨by omega, fun _ => ⟨rfl, bad (fun ⟨W, z, _⟩ => hF ⟨W, z⟩) M1 f1⟩, fun c => absurd rfl c⟩⟩)
  obtain ⟨p1, p2, p3⟩ := pre M1 f1
  have hwd := isFr_wds hk hF
  have e8 : M1.1 18 0 8 = q.1 := by obtain ⟨wn, sp, df, Z, lo⟩ := q; exact p3.1
  have e21 : M1.1 21 0 0 = fV T (aT s) 0 := (a1 0 hF.2.2.1).2
  rw [e8, e21]
  refine ⟨by omega, fun c => ⟨rfl, bad (fun ⟨W, _, z⟩ => c z) M1 f1⟩, fun c => ?_⟩
  have hr2 : (¬ cOk (fL T (aT s)) (fV T (aT s)) W ∧ ans = -3 ∧ s' = clT s ∧ q' = nxQ q) ∨
    (cOk (fL T (aT s)) (fV T (aT s)) W ∧ ∃ out s1 q1, cmR (fL T (aT s)) (fV T (aT s)) W s q out s1 q1 ∧ ((out = -2 ∧ ans = -2 ∧ s' = clT s1 ∧ q' = q1) ∨ (out = -3 ∧ ans = -3 ∧ s' = clT s1 ∧ q' = nxQ q1) ∨ (out = 0 ∧ ans = q1.1 ∧ s' = clT s1 ∧ q' = nxQ q1))) := by
    rcases hr with z | z
    · exact absurd ⟨W, hF, c⟩ z.1
    · obtain ⟨W', z1, z2, z3⟩ := z
      rw [isFr_uq hF z1]; exact z3
  obtain ⟨c1, c2⟩ := cl M1 s q p2 p3
  have m1 : mW (z_w M1 18 0 2 0) (fL T (aT s)) (fV T (aT s)) W := ⟨e1, a1⟩
  have f2 : zfr pHi zno N (z_w M1 18 0 2 0) := p1.w 18 0 2 _ (by simp [pHi])
  generalize z_w M1 18 0 2 0 = N2 at *
  have nx : ∀ (M2 : zM) (q1 : aQ) (v : Int), mQ M2 q1 → v = M2.1 18 0 8 + 1 → mQ (z_w M2 18 0 8 v) (nxQ q1) := by
    intro M2 q1 v h1 hv
    obtain ⟨wn, sp, df, Z, lo⟩ := q1
    exact ⟨by rw [z_w_get_eq, hv, h1.1], h1.2.1, h1.2.2.1, h1.2.2.2.1, h1.2.2.2.2⟩
  have ns : ∀ (M2 : zM) (s1 : aS) (v : Int), mS M2 a s1 → mS (z_w M2 18 0 8 v) a s1 := fun M2 s1 v h1 => mS_eq (fun k j q hq => z_w_get_ne (by unfold sM at hq; omega)) rfl h1
  refine c57 m1 hwd.1 (fun hO => ⟨_, rfl, fun _ => ⟨by omega, fun c => absurd c (by decide), fun _ => ?_⟩⟩) (fun hO => ⟨_, rfl, fun _ => ⟨by omega, fun _ => ⟨rfl, ?_⟩, fun c => absurd rfl c⟩⟩)
  · rcases hr2 with z | z
    · exact absurd hO z.1
    · obtain ⟨_, out, s1, q1, hc, hz⟩ := z
      have hco := cmR_out hc
      refine c62 c1 (iS_clT hi) c2 hiq m1 hwd.1 hO (cmR_clT hc) (fun M3 f3 s3 q3 => ⟨_, rfl, fun _ => ?_⟩)
      have e83 : M3.1 18 0 8 = q1.1 := by obtain ⟨wn, sp, df, Z, lo⟩ := q1; exact q3.1
      have f23 := f2.trans f3
      refine ⟨by omega, fun k1 => ⟨by omega, fun k2 => ⟨rfl, ?_⟩, fun k2 => ⟨rfl, ?_⟩⟩, fun k1 => ⟨by omega, fun k2 => by omega, fun k2 => ⟨rfl, ?_⟩⟩⟩
      · rcases hz with z | z | z
        · omega
        · omega
        · obtain ⟨_, o1, o2, o3⟩ := z
          subst o2; subst o3
          rw [show M3.1 18 0 8 + 1 - 1 = ans by omega]
          exact h _ (f23.w 18 0 8 _ (by simp [pHi])) (ns M3 _ _ s3) (nx M3 q1 _ q3 rfl)
      · rcases hz with z | z | z
        · omega
        · obtain ⟨o0, o1, o2, o3⟩ := z
          subst o2; subst o3
          rw [show out = ans by omega]
          exact h _ (f23.w 18 0 8 _ (by simp [pHi])) (ns M3 _ _ s3) (nx M3 q1 _ q3 rfl)
        · omega
      · rcases hz with z | z | z
        · obtain ⟨o0, o1, o2, o3⟩ := z
          subst o2; subst o3
          rw [show out = ans by omega]
          refine h _ (f23.w 18 0 8 _ (by simp [pHi])) (ns M3 _ _ s3) ?_
          obtain ⟨wn, sp, df, Z, lo⟩ := q'
          exact ⟨by rw [z_w_get_eq, q3.1]; omega, q3.2.1, q3.2.2.1, q3.2.2.2.1, q3.2.2.2.2⟩
        · omega
        · omega
  · rcases hr2 with z | z
    · obtain ⟨_, o1, o2, o3⟩ := z
      subst o1; subst o2; subst o3
      exact h _ (f2.w 18 0 8 _ (by simp [pHi])) (ns N2 _ _ c1) (nx N2 q _ c2 rfl)
    · exact absurd z.1 hO
