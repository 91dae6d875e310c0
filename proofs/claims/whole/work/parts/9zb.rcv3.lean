-- The class carries a command out. (own work)
theorem tdOf_cases {M : zM} {l v : Nat → Int} {W : Nat} {sp : Int} (hm : cmdT M l v W) : (nOf l 70 W = 0 → tdOf l v 70 sp W = sp) ∧ (¬ nOf l 70 W = 0 → M.1 7 0 (70 - 65 : Int).toNat = tdOf l v 70 sp W) :=
  ⟨fun h => tdOf_0 h, fun h => by rw [cmdT_v hm (by omega) h, tdOf_d h]⟩
theorem sp_r {l v : Nat → Int} {W : Nat} {sp : Int} (hk : cOk l v W) (hs : 1 ≤ sp ∧ sp ≤ 1000) : 1 ≤ tdOf l v 70 sp W ∧ tdOf l v 70 sp W ≤ 1000 := by
  by_cases e : nOf l 70 W = 0
  · rw [tdOf_0 e]; exact hs
  · rw [tdOf_d (d' := 0) e]; exact hk.2.2.2.2.2.2 e
theorem c41 {M : zM} {a K : Int} {s : aS} {q : aQ} {l v : Nat → Int} {W : Nat} {R : Option zV → zM → Prop} (hs : cS M a s) (hi : iS a K s) (hq : cQ M q) (hiq : iQ q) (hm : cmdT M l v W) (hw : wds l v W) (hk : cOk l v W) (hv : v 1 = 1)
    (h : ∀ (out : Int) (s' : aS) (q' : aQ) (M' : zM), cmR l v W s q out s' q' → zfr pLo zno M M' → cS M' a s' → cQ M' q' → R (some (zI out)) M') : zF 41 [zR 0 0] M R := by
  obtain ⟨wn, sp, df, Z, lo⟩ := q
  have hq' := hq
  obtain ⟨u1, u2, u3, u4, u5⟩ := hq'
  obtain ⟨v1, v2, v3, v4, v5⟩ := hiq
  have g15 := cS_15 hs
  have gG := iS_G hi
  have et : ∀ q, q < 3 → tg M l v W q = mTg l v W s (wn, sp, df, Z, lo) q := by
    intro q hq
    unfold tg mTg
    rw [u3, g15 q hq, u4 q hq]
  have htr : ∀ q, q < 3 → rB (tg M l v W q) := by
    intro q hq
    have h1 := gG q hq
    have h2 := v4 q hq
    have h3 := tdOf_r (l := l) (v := v) (c := z_chr q) (d := 0) (a := -99999) (b := 99999) (by omega) (k := W) (fun i hi => (hw.2 i hi).2)
    unfold tg tgt
    rw [u3, g15 q hq, u4 q hq]
    split
    · omega
    · split <;> omega
  refine g41_0 (c26 hm (fun i hi => (hw.2 i hi).2) (fun q hq => by rw [g15 q hq]; have := gG q hq; omega) (fun q hq => by rw [u4 q hq]; have := v4 q hq; omega) (by rw [u3]; exact v3) ⟨_, rfl, fun _ => ?_⟩)
  have f1 : zfr (fun k _ => k = 17) zno M (z_w (z_w (z_w M 17 0 0 (tg M l v W 0)) 17 0 1 (tg M l v W 1)) 17 0 2 (tg M l v W 2)) := (((zfr.refl _ _ _).w 17 0 0 _ rfl).w 17 0 1 _ rfl).w 17 0 2 _ rfl
  have t1 : ∀ q, q < 3 → (z_w (z_w (z_w M 17 0 0 (tg M l v W 0)) 17 0 1 (tg M l v W 1)) 17 0 2 (tg M l v W 2)).1 17 0 q = tg M l v W q := by
    intro q hq
    rcases (show q = 0 ∨ q = 1 ∨ q = 2 by omega) with e | e | e <;> subst e <;> rfl
  have m1 : cmdT (z_w (z_w (z_w M 17 0 0 (tg M l v W 0)) 17 0 1 (tg M l v W 1)) 17 0 2 (tg M l v W 2)) l v W := hm
  generalize z_w (z_w (z_w M 17 0 0 (tg M l v W 0)) 17 0 1 (tg M l v W 1)) 17 0 2 (tg M l v W 2) = N at *
  have kN : ∀ k, ¬ k = 17 → ∀ j s, N.1 k j s = M.1 k j s := fun k hk j s => f1.1 k j s hk
  have f1' : zfr pLo zno M N := f1.mono (fun k _ hp => by show k < 18; omega) (fun _ _ hp => hp)
  have sN : cS N a s := cS_eq (fun k j q hq => kN k (by unfold sC at hq; omega) j q) hs
  have qN : cQ N (wn, sp, df, Z, lo) := cQ_eq (fun k j q hq => kN k (by unfold sQ at hq; omega) j q) hq
  have g15N := cS_15 sN
  refine c28 (fun q hq => by rw [t1 q hq]; exact htr q hq) (fun q hq => by rw [g15N q hq]; have := gG q hq; omega) (fun hp => ⟨_, rfl, fun _ => ?_⟩) (fun hp => ⟨_, rfl, fun _ => ⟨by omega, fun c => absurd rfl c, fun _ => ⟨rfl, ?_⟩⟩⟩)
  rotate_left
  · refine h (-3) s _ N (Or.inl ⟨hv, Or.inl ⟨fun hq => hp (fun q hq3 => ?_), rfl, rfl, rfl⟩⟩) f1' sN qN
    rw [t1 q hq3, et q hq3, g15N q hq3]; exact hq q hq3
  · have hP : mvP l v W s (wn, sp, df, Z, lo) := fun q hq3 => by
      have := hp q hq3
      rw [t1 q hq3, et q hq3, g15N q hq3] at this; exact this
    have hspr := sp_r hk v2
    have htd := tdOf_cases (sp := sp) m1
    -- behind the question whether it is full
    have tail : ∀ r1 : Int, (r1 = 0 ∧ ¬ mvS l v W s (wn, sp, df, Z, lo)) ∨ (r1 = 1 ∧ mvS l v W s (wn, sp, df, Z, lo) ∧ s.1 < 8) → zF 20 [zR 6 0, zI 70] N (fun v M3 => ∃ r3 : Int, v = some (zI r3) ∧ ∀ cl3 : Bool, (zr r3) ∧ ((r3 = 0 → (zr r1) ∧ ((r1 = 0 → (zq R) (.inl (some (zI 0))) M3 cl3 0) ∧ (¬ (r1 = 0) → zF 39 [zR 8 0, zR 15 0, zR 17 0, zI (M3.1 0 0 13)] M3 (fun v M4 => v = none ∧ ∀ cl4 : Bool, zF 40 [zR 17 0, zR 15 0] M4 (fun v M5 => v = none ∧ ∀ cl5 : Bool, (zq R) (.inl (some (zI 0))) M5 cl5 0))))) ∧ (¬ (r3 = 0) → zF 22 [zR 6 0, zI 70] M3 (fun v M6 => ∃ r6 : Int, v = some (zI r6) ∧ ∀ cl6 : Bool, (zr r1) ∧ ((r1 = 0 → (zq R) (.inl (some (zI 0))) (z_w M6 0 0 13 r6) false 0) ∧ (¬ (r1 = 0) → zF 39 [zR 8 0, zR 15 0, zR 17 0, zI r6] (z_w M6 0 0 13 r6) (fun v M7 => v = none ∧ ∀ cl7 : Bool, zF 40 [zR 17 0, zR 15 0] M7 (fun v M8 => v = none ∧ ∀ cl8 : Bool, (zq R) (.inl (some (zI 0))) M8 cl8 0)))))))) := by
      intro r1 hr1
      have add : ∀ (N2 : zM), zfr pLo zno M N2 → cS N2 a s → cQ N2 (wn, tdOf l v 70 sp W, df, Z, lo) → (∀ q, q < 3 → N2.1 17 0 q = mTg l v W s (wn, sp, df, Z, lo) q) → mvS l v W s (wn, sp, df, Z, lo) → s.1 < 8 → ∀ sp', sp' = tdOf l v 70 sp W → zF 39 [zR 8 0, zR 15 0, zR 17 0, zI sp'] N2 (fun v M7 => v = none ∧ ∀ cl7 : Bool, zF 40 [zR 17 0, zR 15 0] M7 (fun v M8 => v = none ∧ ∀ cl8 : Bool, (zq R) (.inl (some (zI 0))) M8 cl8 0)) := by
        intro N2 f2 s2 q2 t2 hS h8 sp' hsp
        have hd : ∀ q, q < 3 → bMv N2 q = mTg l v W s (wn, sp, df, Z, lo) q - aG s q := fun q hq => by
          unfold bMv; rw [t2 q hq, cS_15 s2 q hq]
        have hb5 : b500 (fun q => mTg l v W s (wn, sp, df, Z, lo) q - aG s q) := fun q hq => (hP q hq).2
        refine c39 (d := fun q => mTg l v W s (wn, sp, df, Z, lo) q - aG s q) s2 hi h8 hd ⟨by omega, hb5, fun c => by omega, fun _ => ⟨rfl, len3_pos hb5 (fun c => hS (by omega))⟩⟩ (fun M4 f4 s4 => ⟨rfl, fun _ => c40b ⟨rfl, fun _ => ⟨rfl, ?_⟩⟩⟩)
        have f24 : zfr pLo zno M M4 := f2.trans (f4.mono (fun k _ hp => by show k < 18; rcases hp with hp | hp | hp <;> omega) (fun _ _ hp => hp))
        have f5 : zfr pLo zno M (z_cp M4 17 0 15 0) := by
          unfold z_cp
          exact ((f24.w 15 0 0 _ (by decide)).w 15 0 1 _ (by decide)).w 15 0 2 _ (by decide)
        rw [hsp] at s4
        refine h 0 _ _ _ (Or.inl ⟨hv, Or.inr (Or.inr (Or.inr ⟨hP, hS, h8, rfl, rfl, rfl⟩))⟩) f5 (cS_G s4 (fun q hq => by rw [f4.1 17 0 q (by simp [pAdd])]; exact t2 q hq)) ?_
        refine cQ_eq (fun k j q hq => ?_) q2
        have hk15 : ¬ k = 15 := by unfold sQ at hq; omega
        rw [z_cp_get, if_neg (fun c => hk15 c.1), f4.1 k j q (by unfold sQ at hq; unfold pAdd; omega)]
      have tN : ∀ q, q < 3 → N.1 17 0 q = mTg l v W s (wn, sp, df, Z, lo) q := fun q hq => by rw [t1 q hq, et q hq]
      refine c20 m1 (by omega) ⟨_, rfl, fun _ => ?_⟩
      by_cases hF : nOf l 70 W = 0
      · have esp := htd.1 hF
        rw [if_pos hF]
        refine ⟨by omega, fun _ => ⟨by omega, fun c => ⟨rfl, ?_⟩, fun c => ?_⟩, fun c => absurd rfl c⟩
        · have hn : ¬ mvS l v W s (wn, sp, df, Z, lo) := by
            rcases hr1 with q | q
            · exact q.2
            · omega
          refine h 0 s _ N (Or.inl ⟨hv, Or.inr (Or.inr (Or.inl ⟨hP, hn, rfl, rfl, rfl⟩))⟩) f1' sN ?_
          show cQ N (wn, tdOf l v 70 sp W, df, Z, lo)
          rw [esp]; exact qN
        · have hn : mvS l v W s (wn, sp, df, Z, lo) ∧ s.1 < 8 := by
            rcases hr1 with q | q
            · exact absurd q.1 c
            · exact q.2
          exact add N f1' sN (by rw [esp]; exact qN) tN hn.1 hn.2 _ (by rw [esp]; exact qN.2.1)
      · rw [if_neg hF]
        have esp := htd.2 hF
        refine ⟨by omega, fun c => absurd c (by decide), fun _ => c22 (by omega) ⟨_, rfl, fun _ => ?_⟩⟩
        rw [esp]
        have fN2 : zfr pLo zno M (z_w N 0 0 13 (tdOf l v 70 sp W)) := f1'.w 0 0 13 _ (by decide)
        have sN2 : cS (z_w N 0 0 13 (tdOf l v 70 sp W)) a s := cS_eq (fun k j q hq => z_w_get_ne (by unfold sC at hq; omega)) sN
        have qN2 : cQ (z_w N 0 0 13 (tdOf l v 70 sp W)) (wn, tdOf l v 70 sp W, df, Z, lo) := ⟨qN.1, rfl, qN.2.2.1, qN.2.2.2.1, qN.2.2.2.2⟩
        refine ⟨by omega, fun c => ⟨rfl, ?_⟩, fun c => ?_⟩
        · have hn : ¬ mvS l v W s (wn, sp, df, Z, lo) := by
            rcases hr1 with q | q
            · exact q.2
            · omega
          exact h 0 s _ _ (Or.inl ⟨hv, Or.inr (Or.inr (Or.inl ⟨hP, hn, rfl, rfl, rfl⟩))⟩) fN2 sN2 qN2
        · have hn : mvS l v W s (wn, sp, df, Z, lo) ∧ s.1 < 8 := by
            rcases hr1 with q | q
            · exact absurd q.1 c
            · exact q.2
          exact add _ fN2 sN2 qN2 tN hn.1 hn.2 _ rfl
    have e0 := et 0 (by omega); have e1 := et 1 (by omega); have e2 := et 2 (by omega)
    have x0 := g15 0 (by omega); have x1 := g15 1 (by omega); have x2 := g15 2 (by omega)
    rw [e0, e1, e2, x0, x1, x2]
    have hn8 := iS_n hi
    have hc8 := cS_n sN
    by_cases hS : mTg l v W s (wn, sp, df, Z, lo) 0 = aG s 0 ∧ mTg l v W s (wn, sp, df, Z, lo) 1 = aG s 1 ∧ mTg l v W s (wn, sp, df, Z, lo) 2 = aG s 2
    · rw [if_pos hS]
      exact ⟨by omega, fun _ => ⟨by omega, fun _ => tail 0 (Or.inl ⟨rfl, fun c => c hS⟩), fun c => absurd rfl c⟩, fun c => absurd c (by decide)⟩
    · rw [if_neg hS]
      refine ⟨by omega, fun _ => ⟨by omega, fun c => absurd c (by decide), fun _ => c29 (by rw [hc8]; omega) ⟨_, rfl, fun _ => ?_⟩⟩, fun c => absurd c (by decide)⟩
      rw [hc8]
      by_cases h8 : s.1 < 8
      · rw [if_pos (by omega)]
        exact ⟨by omega, fun _ => tail 1 (Or.inr ⟨rfl, hS, h8⟩), fun c => absurd rfl c⟩
      · rw [if_neg (by omega)]
        refine ⟨by omega, fun c => absurd c (by decide), fun _ => ⟨rfl, ?_⟩⟩
        exact h (-2) s _ N (Or.inl ⟨hv, Or.inr (Or.inl ⟨hP, hS, by omega, rfl, rfl, rfl⟩)⟩) f1' sN qN
theorem c44 {M : zM} {a K : Int} {s : aS} {q : aQ} {l v : Nat → Int} {W : Nat} {R : Option zV → zM → Prop} (hs : cS M a s) (hi : iS a K s) (hq : cQ M q) (hm : cmdT M l v W) (hk : cOk l v W) (hv : v 1 = 4)
    (h : ∀ (out : Int) (s' : aS) (q' : aQ) (M' : zM), cmR l v W s q out s' q' → zfr pLo zno M M' → cS M' a s' → cQ M' q' → R (some (zI out)) M') : zF 44 [zR 0 0] M R := by
  have hn8 := iS_n hi
  have hc8 := cS_n hs
  have hP := hk.2.2.2.2.1 hv
  have hPr := hk.2.2.2.2.2.1 hP
  refine g44_0 (c29 (by rw [hc8]; omega) ⟨_, rfl, fun _ => ?_⟩)
  rw [hc8]
  by_cases h8 : s.1 < 8
  · rw [if_pos (by omega)]
    refine ⟨by omega, fun _ => c22 (by omega) ⟨_, rfl, fun _ => ?_⟩, fun c => absurd rfl c⟩
    rw [cmdT_v hm (by omega) hP]
    refine c43 hs hi h8 hPr (fun M' f' s' => ⟨rfl, fun _ => ⟨rfl, ?_⟩⟩)
    refine h 0 _ _ M' (Or.inr (Or.inl ⟨hv, Or.inr ⟨h8, rfl, rfl, rfl⟩⟩)) (f'.mono (fun k _ hp => by show k < 18; rcases hp with hp | hp | hp <;> omega) (fun _ _ hp => hp)) s' (cQ_eq (fun k j q hq => f'.1 k j q (by unfold sQ at hq; unfold pAdd; omega)) hq)
  · rw [if_neg (by omega)]
    refine ⟨by omega, fun c => absurd c (by decide), fun _ => ⟨rfl, ?_⟩⟩
    exact h (-2) s q M (Or.inr (Or.inl ⟨hv, Or.inl ⟨by omega, rfl, rfl, rfl⟩⟩)) (zfr.refl _ _ _) hs hq
theorem c46 {M : zM} {a K : Int} {s : aS} {q : aQ} {l v : Nat → Int} {W : Nat} {R : Option zV → zM → Prop} (hs : cS M a s) (hi : iS a K s) (hq : cQ M q) (hiq : iQ q) (hT : cW M l v W) (hw : wds l v W) (hW : 1 ≤ W)
    (h0 : ¬ cOk l v W → ∀ M', zfr pLo zno M M' → cS M' a s → cQ M' q → R (some (zI (-3))) M')
    (h : cOk l v W → ∀ (out : Int) (s' : aS) (q' : aQ) (M' : zM), cmR l v W s q out s' q' → zfr pLo zno M M' → cS M' a s' → cQ M' q' → R (some (zI out)) M') : zF 46 [zR 0 0] M R := by
  have pre : ∀ M1, zfr p25 zno M M1 → zfr pLo zno M M1 ∧ cS M1 a s ∧ cQ M1 q := fun M1 f1 =>
    ⟨f1.mono (fun k _ hp => by show k < 18; rcases hp with hp | hp <;> omega) (fun _ _ hp => hp), cS_eq (fun k j q hq => f1.1 k j q (by unfold sC at hq; unfold p25; omega)) hs, cQ_eq (fun k j q hq => f1.1 k j q (by unfold sQ at hq; unfold p25; omega)) hq⟩
  refine g46_0 (c25 hT hw hW (fun hk M1 f1 e1 m1 => ⟨_, rfl, fun _ => ?_⟩) (fun hk M1 f1 => ⟨_, rfl, fun _ => ⟨by omega, fun c => absurd rfl c, fun _ => ⟨rfl, h0 hk M1 (pre M1 f1).1 (pre M1 f1).2.1 (pre M1 f1).2.2⟩⟩⟩))
  obtain ⟨fM, sM, qM⟩ := pre M1 f1
  have hkn := hk.2.2.2.1
  unfold known at hkn
  rw [e1]
  refine ⟨by omega, fun _ => ⟨by omega, fun c => ?_, fun c => ?_, fun c => ?_, fun c1 c2 c3 => ⟨by omega, fun c => ⟨rfl, ?_⟩, fun c => ⟨rfl, ?_⟩⟩⟩, fun c => absurd c (by decide)⟩
  · exact c41 sM hi qM hiq m1 hw hk c (fun out s' q' M' hr f' s2 q2 => ⟨_, rfl, fun _ => ⟨rfl, h hk out s' q' M' hr (fM.trans f') s2 q2⟩⟩)
  · exact c44 sM hi qM m1 hk c (fun out s' q' M' hr f' s2 q2 => ⟨_, rfl, fun _ => ⟨rfl, h hk out s' q' M' hr (fM.trans f') s2 q2⟩⟩)
  · refine c45 m1 ⟨rfl, fun _ => ⟨rfl, ?_⟩⟩
    obtain ⟨wn, sp, df, Z, lo⟩ := q
    have g15 := cS_15 sM
    obtain ⟨u1, u2, u3, u4, u5⟩ := qM
    refine h hk 0 s _ _ (Or.inr (Or.inr (Or.inl ⟨c, rfl, rfl, rfl⟩))) (((fM.w 16 0 0 _ (by decide)).w 16 0 1 _ (by decide)).w 16 0 2 _ (by decide)) (cS_eq (fun k j q hq => ?_) sM) ⟨u1, u2, u3, fun q hq => ?_, u5⟩
    · have hk16 : ¬ k = 16 := by unfold sC at hq; omega
      rw [z_w_get_ne (fun c => hk16 c.1), z_w_get_ne (fun c => hk16 c.1), z_w_get_ne (fun c => hk16 c.1)]
    · have e15 := g15 q hq
      have e16 := u4 q hq
      dsimp only
      rw [← e15, ← e16]
      rcases (show q = 0 ∨ q = 1 ∨ q = 2 by omega) with e | e | e <;> subst e <;> rfl
  · obtain ⟨wn, sp, df, Z, lo⟩ := q
    refine h hk 0 s _ _ (Or.inr (Or.inr (Or.inr ⟨by omega, rfl, rfl, rfl⟩))) (fM.w 0 0 12 _ (by decide)) (cS_eq (fun k j q hq => z_w_get_ne (by unfold sC at hq; omega)) sM) ?_
    rw [if_neg c]
    exact ⟨qM.1, qM.2.1, rfl, qM.2.2.2⟩
  · obtain ⟨wn, sp, df, Z, lo⟩ := q
    refine h hk 0 s _ _ (Or.inr (Or.inr (Or.inr ⟨by omega, rfl, rfl, rfl⟩))) (fM.w 0 0 12 _ (by decide)) (cS_eq (fun k j q hq => z_w_get_ne (by unfold sC at hq; omega)) sM) ?_
    rw [if_pos c]
    exact ⟨qM.1, qM.2.1, rfl, qM.2.2.2⟩
theorem cmR_out {l v : Nat → Int} {W : Nat} {s s' : aS} {q q' : aQ} {out : Int} (h : cmR l v W s q out s' q') : (out = 0 ∨ out = -2 ∨ out = -3) ∧ q'.1 = q.1 := by
  obtain ⟨wn, sp, df, Z, lo⟩ := q
  rcases h with ⟨_, h | h | h | h⟩ | ⟨_, h | h⟩ | h | h
  · obtain ⟨_, h1, _, h2⟩ := h; subst h2; exact ⟨by omega, rfl⟩
  · obtain ⟨_, _, _, h1, _, h2⟩ := h; subst h2; exact ⟨by omega, rfl⟩
  · obtain ⟨_, _, h1, _, h2⟩ := h; subst h2; exact ⟨by omega, rfl⟩
  · obtain ⟨_, _, _, h1, _, h2⟩ := h; subst h2; exact ⟨by omega, rfl⟩
  · obtain ⟨_, h1, _, h2⟩ := h; subst h2; exact ⟨by omega, rfl⟩
  · obtain ⟨_, h1, _, h2⟩ := h; subst h2; exact ⟨by omega, rfl⟩
  · obtain ⟨_, h1, _, h2⟩ := h; subst h2; exact ⟨by omega, rfl⟩
  · obtain ⟨_, h1, _, h2⟩ := h; subst h2; exact ⟨by omega, rfl⟩
theorem cS_T {M : zM} {a : Int} {s : aS} (h : cS M a s) : M.1 1 0 1 = aT s := by
  obtain ⟨n, ⟨D, L, F⟩, ⟨w, e, x, md, wt⟩, ⟨P, G⟩, ⟨hd, of, cu⟩, ⟨en, sl⟩, tl⟩ := s
  exact h.2.2.2.2.2.2.2.2.2
theorem cS_clT {M : zM} {a : Int} {s : aS} (h : cS M a s) : cS (z_w M 1 0 1 0) a (clT s) := by
  obtain ⟨n, ⟨D, L, F⟩, ⟨w, e, x, md, wt⟩, ⟨P, G⟩, ⟨hd, of, cu⟩, ⟨en, sl⟩, tl⟩ := s
  obtain ⟨r, ha, wk, h1, h2, h3, h4, h5, h6, h7⟩ := h
  exact ⟨cRow_eq rfl rfl (fun b s => rfl) (fun b => rfl) (fun b => rfl) r, ha, ⟨wk.1, fun c => cEnt_eq rfl (fun i _ _ => rfl) (wk.2.1 c), fun c => ⟨(wk.2.2 c).1, (wk.2.2 c).2.1, cEnt_eq rfl (fun i _ _ => rfl) (wk.2.2 c).2.2.1, (wk.2.2 c).2.2.2⟩⟩, h1, h2, h3, h4, h5, h6, rfl⟩
theorem c47 {M : zM} {a K : Int} {s : aS} {q : aQ} {T : Nat → Int} {R : Option zV → zM → Prop} (hs : cS M a s) (hi : iS a K s) (hq : cQ M q) (hiq : iQ q) (hT : cTx M T (aT s)) (hk : okT T (aT s))
    (h : ∀ (ans : Int) (s1 : aS) (q' : aQ) (M' : zM), rcR T s q ans (clT s1) q' → zfr pLo zno M M' → cS M' a s1 → cQ M' q' → R (some (zI ans)) M') : zF 47 [zR 0 0] M R := by
  have pre : ∀ M1, zfr p17 zno M M1 → zfr pLo zno M M1 ∧ cS M1 a s ∧ cQ M1 q := fun M1 f1 =>
    ⟨f1.mono (fun k _ hp => by show k < 18; rcases hp with hp | hp | hp <;> omega) (fun _ _ hp => hp), cS_eq (fun k j q hq => f1.1 k j q (by unfold sC at hq; unfold p17; omega)) hs, cQ_eq (fun k j q hq => f1.1 k j q (by unfold sQ at hq; unfold p17; omega)) hq⟩
  refine g47_0 (c17 hT hk (fun W M1 hF f1 e1 a1 => ⟨_, rfl, fun _ => ?_⟩) (fun hF M1 f1 => ⟨_, rfl, fun _ => ⟨by omega, fun _ => ⟨rfl, ?_⟩, fun c => absurd rfl c⟩⟩))
  rotate_left
  · exact h (-1) s q M1 (Or.inl ⟨fun ⟨W, hW, _⟩ => hF ⟨W, hW⟩, rfl, rfl, rfl⟩) (pre M1 f1).1 (pre M1 f1).2.1 (pre M1 f1).2.2
  · obtain ⟨fM, sM, qM⟩ := pre M1 f1
    have hwd := isFr_wds hk hF
    have hW := hF.2.2.1
    have e14 : M1.1 0 0 14 = q.1 := by obtain ⟨wn, sp, df, Z, lo⟩ := q; exact qM.1
    have hwn : 0 ≤ q.1 ∧ q.1 ≤ 100000 := by obtain ⟨wn, sp, df, Z, lo⟩ := q; exact hiq.1
    have e5 : M1.1 5 0 0 = fV T (aT s) 0 := (a1 0 hW).2
    refine ⟨by omega, fun c => absurd c (by decide), fun _ => c18 ⟨_, rfl, fun _ => ?_⟩⟩
    rw [e5, e14]
    refine ⟨by omega, fun c => ?_, fun c => ⟨rfl, ?_⟩⟩
    · have nx : ∀ (M2 : zM) (q1 : aQ), cQ M2 q1 → cQ (z_w M2 0 0 14 (M2.1 0 0 14 + 1)) (nxQ q1) := by
        intro M2 q1 h1
        obtain ⟨wn, sp, df, Z, lo⟩ := q1
        exact ⟨by rw [z_w_get_eq, h1.1], h1.2.1, h1.2.2.1, h1.2.2.2.1, h1.2.2.2.2⟩
      have ns : ∀ (M2 : zM) (s1 : aS), cS M2 a s1 → cS (z_w M2 0 0 14 (M2.1 0 0 14 + 1)) a s1 := fun M2 s1 h1 => cS_eq (fun k j q hq => z_w_get_ne (by unfold sC at hq; omega)) h1
      refine c46 (l := fL T (aT s)) (v := fV T (aT s)) (W := W) sM hi qM hiq ⟨e1, a1⟩ hwd.1 hW (fun hO M2 f2 s2 q2 => ⟨_, rfl, fun _ => ⟨by omega, fun _ => ⟨by omega, fun c2 => absurd rfl c2, fun _ => ⟨rfl, ?_⟩⟩, fun c2 => absurd c2 (by decide)⟩⟩) (fun hO out s1 q1 M2 hr f2 s2 q2 => ⟨_, rfl, fun _ => ?_⟩)
      · exact h (-3) s (nxQ q) _ (Or.inr ⟨W, hF, c, Or.inl ⟨hO, rfl, rfl, rfl⟩⟩) ((fM.trans f2).w 0 0 14 _ (by decide)) (ns M2 s s2) (nx M2 q q2)
      · have ho := cmR_out hr
        have e142 : M2.1 0 0 14 = q1.1 := by obtain ⟨wn, sp, df, Z, lo⟩ := q1; exact q2.1
        refine ⟨by omega, fun c2 => ⟨by omega, fun c3 => ⟨rfl, ?_⟩, fun c3 => ⟨rfl, ?_⟩⟩, fun c2 => ⟨rfl, ?_⟩⟩
        · rw [show (some (zI (M2.1 0 0 14))) = some (zI q1.1) by rw [e142]]
          exact h q1.1 s1 (nxQ q1) _ (Or.inr ⟨W, hF, c, Or.inr ⟨hO, out, s1, q1, hr, Or.inr (Or.inr ⟨by omega, rfl, rfl, rfl⟩)⟩⟩) ((fM.trans f2).w 0 0 14 _ (by decide)) (ns M2 s1 s2) (nx M2 q1 q2)
        · exact h (-3) s1 (nxQ q1) _ (Or.inr ⟨W, hF, c, Or.inr ⟨hO, out, s1, q1, hr, Or.inr (Or.inl ⟨c3, rfl, rfl, rfl⟩)⟩⟩) ((fM.trans f2).w 0 0 14 _ (by decide)) (ns M2 s1 s2) (nx M2 q1 q2)
        · exact h (-2) s1 q1 _ (Or.inr ⟨W, hF, c, Or.inr ⟨hO, out, s1, q1, hr, Or.inl ⟨c2, rfl, rfl, rfl⟩⟩⟩) (fM.trans f2) s2 q2
    · exact h (-1) s q M1 (Or.inl ⟨fun ⟨W, _, hV⟩ => c hV, rfl, rfl, rfl⟩) fM sM qM
theorem c48 {M : zM} {a K : Int} {s : aS} {q : aQ} {T : Nat → Int} {R : Option zV → zM → Bool → Prop} {X : Nat → zM → Prop} (hs : cS M a s) (hi : iS a K s) (hq : cQ M q) (hiq : iQ q) (hT : cTx M T (aT s)) (hk : okT T (aT s))
    (h0 : aOf s = 1 ∨ q.2.2.2.2 = 1 → X 0 M)
    (h : aOf s = 0 → q.2.2.2.2 = 0 → ∀ (ans : Int) (s' : aS) (q' : aQ) (M' : zM) (c : Bool), rcR T s q ans s' q' → zfr pLo zno M M' → cS M' a s' → cQ M' q' → R (some (zI ans)) M' c) : zX 48 [zR 0 0] M R X := by
  have e9 := cS_9 hs
  have ho := iS_of hi
  have e10 : M.1 0 0 10 = q.2.2.2.2 ∧ (q.2.2.2.2 = 0 ∨ q.2.2.2.2 = 1) := by
    obtain ⟨wn, sp, df, Z, lo⟩ := q
    exact ⟨hq.2.2.2.2, hiq.2.2.2.2⟩
  refine g48_0 (c7 (by omega) (by omega) (fun c1 c2 => ⟨rfl, rfl, c47 hs hi hq hiq hT hk (fun ans s1 q' M' hr f' s2 q2 => ⟨_, rfl, fun _ => c4 ⟨_, rfl, fun cl => ⟨rfl, ?_⟩⟩⟩)⟩) (fun c => ⟨rfl, rfl, h0 (by omega)⟩))
  exact h (by omega) (by omega) ans _ q' _ cl hr (f'.w 1 0 1 _ (by decide)) (cS_clT s2) (cQ_eq (fun k j q hq => z_w_get_ne (by unfold sQ at hq; omega)) q2)
