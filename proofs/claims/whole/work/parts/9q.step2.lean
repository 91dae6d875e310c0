-- The class counts its step, and asks whether the block's work is done. (own work)
abbrev p75 : Nat → Nat → Prop := fun k s => k = 8 ∧ (s = 5 ∨ s = 6)
theorem c75 {M : zM} {n : Nat} {D : Nat → Nat → Int} {L F : Nat → Int} {a md : Int} {e x : Nat} {R : Option zV → zM → Prop} (hr : cRow M n D L F) (hB : okB n D L F) (hn : 1 ≤ n) (ha : M.1 8 0 1 = a) (ha1 : 1 ≤ a ∧ a ≤ 1000) (h3 : M.1 10 (bN M 0) 3 = (e : Int)) (h4 : M.1 10 (bN M 0) 4 = (x : Int)) (he : e ≤ 1000000) (hx : x ≤ 1000000) (h5 : M.1 8 0 5 = md) (hm : 0 ≤ md ∧ md + 1 ≤ L 0) (hF : ¬ F 0 = 0)
    (h : ∀ M', zfr p75 zno M M' → M'.1 8 0 5 = md + 1 → (md + 1 < L 0 → M'.1 8 0 6 = bWt a (L 0) (F 0) e x (md + 2)) → R none M') : zF 75 [zR 8 0] M R := by
  have hb0 := hB 0 (by omega)
  have hl0 := okB_L hb0
  have hr0 := hr.2.2.2 0 (by omega)
  have hq0 := sq_b hb0.1
  refine g75_0 ?_
  rw [h5]
  refine c31z hr.1 ⟨_, rfl, fun _ => ?_⟩
  show (zr (md + 1) ∧ zr (M.1 10 (bN M 0) 1)) ∧ ((M.1 10 (bN M 0) 1 ≤ md + 1 → _) ∧ (¬ (M.1 10 (bN M 0) 1 ≤ md + 1) → _))
  rw [hr0.2.1]
  have f1 : zfr p75 zno M (z_w M 8 0 5 (md + 1)) := (zfr.refl _ _ _).w 8 0 5 _ ⟨rfl, Or.inl rfl⟩
  refine ⟨by omega, fun c => ⟨rfl, h _ f1 rfl (fun c2 => by omega)⟩, fun c => c31z hr.1 ⟨_, rfl, fun _ => ?_⟩⟩
  show zF 70 [zR 10 (bN M 0), zI (md + 1 + 1), zI (M.1 8 0 1)] _ _
  rw [ha]
  have g1 : (z_w M 8 0 5 (md + 1)).1 10 (bN M 0) 1 = L 0 := hr0.2.1
  have g2 : (z_w M 8 0 5 (md + 1)).1 10 (bN M 0) 2 = F 0 * F 0 := hr0.2.2
  have g3 : (z_w M 8 0 5 (md + 1)).1 10 (bN M 0) 3 = (e : Int) := h3
  have g4 : (z_w M 8 0 5 (md + 1)).1 10 (bN M 0) 4 = (x : Int) := h4
  refine c70 (by rw [g3]; omega) (by rw [g4]; omega) (by rw [g2]; omega) (by omega) (by rw [g1]; omega) (by rw [g1]; omega) ⟨_, rfl, fun _ => ⟨rfl, ?_⟩⟩
  rw [g1, g2, g3, g4]
  refine h _ (f1.w 8 0 6 _ ⟨rfl, Or.inr rfl⟩) rfl (fun _ => ?_)
  rw [z_w_get_eq, bWt, if_neg hF, show md + 1 + 1 = md + 2 by omega]
abbrev p76 : Nat → Nat → Prop := fun k s => k = 14 ∨ (k = 8 ∧ (s = 5 ∨ s = 6))
theorem c76 {M : zM} {n : Nat} {D : Nat → Nat → Int} {L F : Nat → Int} {a md : Int} {e x : Nat} {R : Option zV → zM → Prop} (hr : cRow M n D L F) (hB : okB n D L F) (hn : 1 ≤ n) (ha : M.1 8 0 1 = a) (ha1 : 1 ≤ a ∧ a ≤ 1000) (h3 : M.1 10 (bN M 0) 3 = (e : Int)) (h4 : M.1 10 (bN M 0) 4 = (x : Int)) (he : e ≤ 1000000) (hx : x ≤ 1000000) (h5 : M.1 8 0 5 = md) (hm : 0 ≤ md ∧ md + 1 ≤ L 0) (hF : ¬ F 0 = 0)
    (h : ∀ M', zfr p76 zno M M' → (∀ q, q < 3 → M'.1 14 0 q = M.1 14 0 q + sDl (D 0) (L 0) md q) → M'.1 8 0 5 = md + 1 → (md + 1 < L 0 → M'.1 8 0 6 = bWt a (L 0) (F 0) e x (md + 2)) → R (some (zI (sBt (D 0) (L 0) md))) M') : zF 76 [zR 0 0] M R := by
  have hb0 := hB 0 (by omega)
  have hl0 := okB_L hb0
  have hr0 := hr.2.2.2 0 (by omega)
  have f0 := hb0.1
  have hlen := hb0.2.2.2 (by omega)
  have hle := len3_le (a := D 0)
  have i0 := iab_r (D 0 0); have i1 := iab_r (D 0 1); have i2 := iab_r (D 0 2)
  have d0 := hr0.1 0 (by omega); have d1 := hr0.1 1 (by omega); have d2 := hr0.1 2 (by omega)
  have b0 := hb0.2.1 0 (by omega); have b1 := hb0.2.1 1 (by omega); have b2 := hb0.2.1 2 (by omega)
  have eL := hr0.2.1
  refine g76_0 (c31z hr.1 ⟨_, rfl, fun cl => ?_⟩)
  rw [h5]
  have e0 : sDl (M.1 11 (bN M 0)) (M.1 10 (bN M 0) 1) md 0 = sDl (D 0) (L 0) md 0 := by unfold sDl; rw [d0, eL]
  have e1 : sDl (M.1 11 (bN M 0)) (M.1 10 (bN M 0) 1) md 1 = sDl (D 0) (L 0) md 1 := by unfold sDl; rw [d1, eL]
  have e2 : sDl (M.1 11 (bN M 0)) (M.1 10 (bN M 0) 1) md 2 = sDl (D 0) (L 0) md 2 := by unfold sDl; rw [d2, eL]
  have r0 : z_p (orB 0 (sDl (D 0) (L 0) md 0) 0) := orB_r (by decide) (by omega)
  have r1 : z_p (orB (orB 0 (sDl (D 0) (L 0) md 0) 0) (sDl (D 0) (L 0) md 1) 1) := orB_r r0 (by omega)
  refine c76_a0 (by omega) (by omega) (by omega) (by omega) (by decide) (fun u cl => ?_)
  rw [e0]
  refine c76_a1 (M := z_w M 14 0 0 (M.1 14 0 0 + sDl (D 0) (L 0) md 0)) (by show -500 ≤ M.1 11 (bN M 0) 1 ∧ M.1 11 (bN M 0) 1 ≤ 500; omega) (by show 1 ≤ M.1 10 (bN M 0) 1 ∧ M.1 10 (bN M 0) 1 ≤ 500; omega) (by show -M.1 10 (bN M 0) 1 ≤ M.1 11 (bN M 0) 1 ∧ M.1 11 (bN M 0) 1 ≤ M.1 10 (bN M 0) 1; omega) (by show 0 ≤ md ∧ md + 1 ≤ M.1 10 (bN M 0) 1; omega) r0 (fun u cl => ?_)
  show zT 76 (22, [some (zR 0 0), some (zR 10 (bN M 0)), some (zI md), some (zI (orB (orB 0 (sDl (D 0) (L 0) md 0) 0) (sDl (M.1 11 (bN M 0)) (M.1 10 (bN M 0) 1) md 1) 1)), some (zI 2), u], [], z_w (z_w M 14 0 0 (M.1 14 0 0 + sDl (D 0) (L 0) md 0)) 14 0 1 (M.1 14 0 1 + sDl (M.1 11 (bN M 0)) (M.1 10 (bN M 0) 1) md 1), cl) _
  rw [e1]
  refine c76_a2 (M := z_w (z_w M 14 0 0 (M.1 14 0 0 + sDl (D 0) (L 0) md 0)) 14 0 1 (M.1 14 0 1 + sDl (D 0) (L 0) md 1)) (by show -500 ≤ M.1 11 (bN M 0) 2 ∧ M.1 11 (bN M 0) 2 ≤ 500; omega) (by show 1 ≤ M.1 10 (bN M 0) 1 ∧ M.1 10 (bN M 0) 1 ≤ 500; omega) (by show -M.1 10 (bN M 0) 1 ≤ M.1 11 (bN M 0) 2 ∧ M.1 11 (bN M 0) 2 ≤ M.1 10 (bN M 0) 1; omega) (by show 0 ≤ md ∧ md + 1 ≤ M.1 10 (bN M 0) 1; omega) r1 (fun u cl => ?_)
  show zT 76 (22, [some (zR 0 0), some (zR 10 (bN M 0)), some (zI md), some (zI (orB (orB (orB 0 (sDl (D 0) (L 0) md 0) 0) (sDl (D 0) (L 0) md 1) 1) (sDl (M.1 11 (bN M 0)) (M.1 10 (bN M 0) 1) md 2) 2)), some (zI 3), u], [], z_w (z_w (z_w M 14 0 0 (M.1 14 0 0 + sDl (D 0) (L 0) md 0)) 14 0 1 (M.1 14 0 1 + sDl (D 0) (L 0) md 1)) 14 0 2 (M.1 14 0 2 + sDl (M.1 11 (bN M 0)) (M.1 10 (bN M 0) 1) md 2), cl) _
  rw [e2]
  have hfr : zfr p76 zno M (z_w (z_w (z_w M 14 0 0 (M.1 14 0 0 + sDl (D 0) (L 0) md 0)) 14 0 1 (M.1 14 0 1 + sDl (D 0) (L 0) md 1)) 14 0 2 (M.1 14 0 2 + sDl (D 0) (L 0) md 2)) := (((zfr.refl _ _ _).w 14 0 0 _ (Or.inl rfl)).w 14 0 1 _ (Or.inl rfl)).w 14 0 2 _ (Or.inl rfl)
  have hP : ∀ q, q < 3 → (z_w (z_w (z_w M 14 0 0 (M.1 14 0 0 + sDl (D 0) (L 0) md 0)) 14 0 1 (M.1 14 0 1 + sDl (D 0) (L 0) md 1)) 14 0 2 (M.1 14 0 2 + sDl (D 0) (L 0) md 2)).1 14 0 q = M.1 14 0 q + sDl (D 0) (L 0) md q := by
    intro q hq
    rcases (show q = 0 ∨ q = 1 ∨ q = 2 by omega) with e | e | e <;> subst e <;> rfl
  generalize hM1 : z_w (z_w (z_w M 14 0 0 (M.1 14 0 0 + sDl (D 0) (L 0) md 0)) 14 0 1 (M.1 14 0 1 + sDl (D 0) (L 0) md 1)) 14 0 2 (M.1 14 0 2 + sDl (D 0) (L 0) md 2) = M1 at *
  have k8 : ∀ s, M1.1 8 0 s = M.1 8 0 s := fun s => by rw [← hM1]; rfl
  have k10 : ∀ b s, M1.1 10 b s = M.1 10 b s := fun b s => by rw [← hM1]; rfl
  have k11 : ∀ b s, M1.1 11 b s = M.1 11 b s := fun b s => by rw [← hM1]; rfl
  have eb : bN M1 0 = bN M 0 := by unfold bN bAt; rw [k8]
  refine g76_22a3 (c75 (e := e) (x := x) (cRow_eq (k8 2) (k8 3) k11 (fun b => k10 b 1) (fun b => k10 b 2) hr) hB hn (by rw [k8]; exact ha) ha1 (by rw [eb, k10]; exact h3) (by rw [eb, k10]; exact h4) he hx (by rw [k8]; exact h5) hm hF (fun M2 hf2 g5 g6 => ⟨rfl, fun _ => ⟨rfl, ?_⟩⟩))
  refine h M2 (hfr.trans (hf2.mono (fun k s hp => Or.inr hp) (fun _ _ hp => hp))) (fun q hq => ?_) g5 g6
  rw [hf2.1 14 0 q (by simp [p75])]; exact hP q hq
theorem c77 {M : zM} {n : Nat} {D : Nat → Nat → Int} {L F : Nat → Int} {md : Int} {R : Option zV → zM → Prop} (hr : cRow M n D L F) (hB : okB n D L F) (hn : 1 ≤ n) (h5 : M.1 8 0 5 = md) (hm : zr md)
    (h : R (some (zI (if F 0 = 0 ∨ L 0 ≤ md then 1 else 0))) M) : zF 77 [zR 8 0] M R := by
  have hb0 := hB 0 (by omega)
  have hl0 := okB_L hb0
  have hr0 := hr.2.2.2 0 (by omega)
  have hq0 := sq_b hb0.1
  refine g77_0 (c31z hr.1 ⟨_, rfl, fun _ => c68 (by rw [hr0.2.2]; omega) ⟨_, rfl, fun _ => ?_⟩⟩)
  rw [hr0.2.2, hr0.2.1, h5]
  by_cases e : F 0 * F 0 = 0
  · rw [if_pos e]
    have hz := sq_z hb0.1.1 e
    rw [if_pos (Or.inl hz)] at h
    exact ⟨by omega, fun _ => ⟨rfl, h⟩, fun c => absurd c (by decide)⟩
  · rw [if_neg e]
    have hz : ¬ F 0 = 0 := fun c => e (by rw [c]; rfl)
    refine ⟨by omega, fun c => absurd rfl c, fun _ => ⟨by omega, fun c => ⟨rfl, ?_⟩, fun c => ⟨rfl, ?_⟩⟩⟩
    · rw [if_neg (by omega)] at h; exact h
    · rw [if_pos (by omega)] at h; exact h
-- the first block is dropped
abbrev p78 : Nat → Nat → Prop := fun k s => k = 8 ∧ (s = 2 ∨ s = 3 ∨ s = 4)
theorem c78 {M : zM} {n : Nat} {D : Nat → Nat → Int} {L F : Nat → Int} {R : Option zV → zM → Prop} (hr : cRow M n D L F) (hn : 1 ≤ n)
    (h : ∀ M', zfr p78 zno M M' → cRow M' (n - 1) (fun i => D (i + 1)) (fun i => L (i + 1)) (fun i => F (i + 1)) → (∀ i, bN M' i = bN M (i + 1)) → M'.1 8 0 4 = 0 → R none M') : zF 78 [zR 8 0] M R := by
  obtain ⟨h1, h2, h3, h4⟩ := hr
  refine g78_0 (c30 (by omega) (by omega) ⟨_, rfl, fun _ => ?_⟩)
  rw [h2]
  refine c32 (by omega) (by omega) ⟨_, rfl, fun _ => ⟨rfl, ?_⟩⟩
  have hm := imax_r 0 ((n : Int) - 1)
  rw [show imax 0 ((n : Int) - 1) = ((n - 1 : Nat) : Int) by omega]
  have hb : ∀ i, bN (z_w (z_w (z_w M 8 0 2 ((M.1 8 0 2 + 1) % 8)) 8 0 3 ((n - 1 : Nat) : Int)) 8 0 4 0) i = bN M (i + 1) := by
    intro i
    show (((M.1 8 0 2 + 1) % 8 + (i : Int)) % 8).toNat = ((M.1 8 0 2 + ((i + 1 : Nat) : Int)) % 8).toNat
    omega
  refine h _ ((((zfr.refl _ _ _).w 8 0 2 _ ⟨rfl, by simp⟩).w 8 0 3 _ ⟨rfl, by simp⟩).w 8 0 4 _ ⟨rfl, by simp⟩) ⟨?_, rfl, by omega, fun i hi => ?_⟩ hb rfl
  · show 0 ≤ (M.1 8 0 2 + 1) % 8 ∧ (M.1 8 0 2 + 1) % 8 ≤ 7
    omega
  · rw [hb]; exact h4 (i + 1) (by omega)
