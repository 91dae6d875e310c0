-- The reference begins a block, and shifts its row. (own work)
abbrev p93 : Nat → Nat → Prop := fun k s => k = 29 ∨ (k = 18 ∧ (s = 19 ∨ s = 23 ∨ s = 24))
abbrev l93 : Nat → Nat → Prop := fun k s => k = 18 ∧ (s = 20 ∨ s = 21)
theorem c93 {M : zM} {n : Nat} {D : Nat → Nat → Int} {L F P : Nat → Int} {a : Int} {g : Nat} {R : Option zV → zM → Prop} (hr : mRow M n D L F) (hB : okB n D L F) (ha : M.1 18 0 0 = a) (ha1 : 1 ≤ a ∧ a ≤ 1000) (hn : 1 ≤ n) (hg : g ≤ 1000000) (hP : ∀ q, q < 3 → M.1 23 0 q = P q)
    (h : ∀ M', zfr p93 l93 M M' → mWk M' (D 0) (L 0) P 1 g (pE (qC D F) (qD a L) n 0 g 1) 0 (bWt a (L 0) (F 0) g (pE (qC D F) (qD a L) n 0 g 1) 1) → R none M') : zF 93 [zR 18 0, zJ g] M R := by
  have hb0 := hB 0 (by omega)
  have hl0 := okB_L hb0
  have hr0 := hr.2.2.2 0 (by omega)
  have hx1 := pE_1b (d := qD a L) (g := g) hB
  have e27 : M.1 27 0 0 = F 0 := hr0.1
  have hf := hb0.1
  refine g93_0 (c90p (M := z_wl M 18 0 20 g) (i := 1) (st := 0) (g := g) (mRow_eq rfl (fun s => rfl) (fun s => rfl) (fun s => rfl) hr) hB ha ha1 (by omega) (by omega) (by omega) (fun _ q => absurd q (by decide)) ⟨_, rfl, fun _ => ?_⟩)
  generalize pE (qC D F) (qD a L) n 0 g 1 = X at *
  show zr (M.1 27 0 0) ∧ ((¬ M.1 27 0 0 = 0 → _) ∧ (M.1 27 0 0 = 0 → _))
  rw [e27]
  have hfr : zfr p93 l93 M (z_w (z_w (z_w (z_w (z_w (z_wl (z_wl M 18 0 20 g) 18 0 21 X) 18 0 19 1) 18 0 23 0) 29 0 0 (M.1 23 0 0)) 29 0 1 (M.1 23 0 1)) 29 0 2 (M.1 23 0 2)) :=
    ((((((((zfr.refl _ _ _).wl 18 0 20 _ ⟨rfl, Or.inl rfl⟩).wl 18 0 21 _ ⟨rfl, Or.inr rfl⟩).w 18 0 19 _ (by simp [p93])).w 18 0 23 _ (by simp [p93])).w 29 0 0 _ (by simp [p93])).w 29 0 1 _ (by simp [p93])).w 29 0 2 _ (by simp [p93]))
  have h29 : ∀ q, q < 3 → (z_w (z_w (z_w (z_w (z_w (z_wl (z_wl M 18 0 20 g) 18 0 21 X) 18 0 19 1) 18 0 23 0) 29 0 0 (M.1 23 0 0)) 29 0 1 (M.1 23 0 1)) 29 0 2 (M.1 23 0 2)).1 29 0 q = P q - sAf (D 0 q) (L 0) 0 := by
    intro q hq
    rw [sAf_0 hl0.1, Int.sub_zero, ← hP q hq]
    rcases (show q = 0 ∨ q = 1 ∨ q = 2 by omega) with e | e | e <;> subst e <;> rfl
  have fin : ∀ t : Int, t = bWt a (L 0) (F 0) g X 1 → R none (z_w (z_w (z_w (z_w (z_w (z_w (z_wl (z_wl M 18 0 20 g) 18 0 21 X) 18 0 19 1) 18 0 23 0) 29 0 0 (M.1 23 0 0)) 29 0 1 (M.1 23 0 1)) 29 0 2 (M.1 23 0 2)) 18 0 24 t) := by
    intro t ht
    exact h _ (hfr.w 18 0 24 _ (by simp [p93])) ⟨rfl, fun _ => ⟨rfl, rfl, rfl, ht, h29⟩⟩
  refine ⟨by omega, fun c => ?_, fun c => ⟨rfl, ?_⟩⟩
  · have hr1 : mRow (z_w (z_w (z_w (z_w (z_w (z_wl (z_wl M 18 0 20 g) 18 0 21 X) 18 0 19 1) 18 0 23 0) 29 0 0 (M.1 23 0 0)) 29 0 1 (M.1 23 0 1)) 29 0 2 (M.1 23 0 2)) n D L F := mRow_eq rfl (fun s => rfl) (fun s => rfl) (fun s => rfl) hr
    have eL := mLn_of hr1 hB (show 0 < n by omega)
    rw [if_neg c] at eL
    have eF : mF (z_w (z_w (z_w (z_w (z_w (z_wl (z_wl M 18 0 20 g) 18 0 21 X) 18 0 19 1) 18 0 23 0) 29 0 0 (M.1 23 0 0)) 29 0 1 (M.1 23 0 1)) 29 0 2 (M.1 23 0 2)) 0 = F 0 := e27
    refine c92 (M := z_w (z_w (z_w (z_w (z_w (z_wl (z_wl M 18 0 20 g) 18 0 21 X) 18 0 19 1) 18 0 23 0) 29 0 0 (M.1 23 0 0)) 29 0 1 (M.1 23 0 1)) 29 0 2 (M.1 23 0 2)) (okM_of hr1 hB (by omega)) (by rw [eF]; omega) (by show 1 ≤ M.1 18 0 0 ∧ M.1 18 0 0 ≤ 1000; rw [ha]; exact ha1) (by show (0 : Int) ≤ 0 ∧ 0 + 1 ≤ mLn _ 0; rw [eL]; omega) (by show 0 ≤ (g : Int) ∧ (g : Int) ≤ 1000000; omega) (by show 0 ≤ (X : Int) ∧ (X : Int) ≤ 1000000; omega) ⟨_, rfl, fun _ => ⟨rfl, fin _ ?_⟩⟩
    rw [eF, eL]
    show dl (sSq (F 0 * F 0) g X (M.1 18 0 0) (L 0) (0 + 1)) = _
    rw [ha, bWt, if_neg c]; rfl
  · exact fin _ (by rw [bWt, if_pos c]; exact hr0.2.1 c)
abbrev p95 : Nat → Nat → Prop := fun k s => k = 26 ∨ k = 27 ∨ k = 28 ∨ (k = 18 ∧ s = 15)
def shI (M M' : zM) (n : Nat) (i j : Nat) : Prop := M'.1 18 0 15 = ((n - 1 : Nat) : Int) ∧ (∀ k, k < 9 → M'.1 27 0 k = if k < i then M.1 27 0 (k + 1) else M.1 27 0 k) ∧ (∀ k, k < 9 → M'.1 28 0 k = if k < i then M.1 28 0 (k + 1) else M.1 28 0 k) ∧ (∀ k, k < 27 → M'.1 26 0 k = if k < j then M.1 26 0 (k + 3) else M.1 26 0 k)
theorem shI_a {M M' : zM} {n i j : Nat} (h : shI M M' n i j) (hj : j < 24) : shI M (z_w M' 26 0 j (M'.1 26 0 (j + 3))) n i (j + 1) := by
  obtain ⟨h1, h2, h3, h4⟩ := h
  refine ⟨h1, h2, h3, fun k hk => ?_⟩
  rw [z_w_get]
  by_cases e : k = j
  · rw [if_pos ⟨rfl, rfl, e⟩, if_pos (by omega), h4 (j + 3) (by omega), if_neg (by omega), e]
  · rw [if_neg (fun q => e q.2.2), h4 k hk]
    by_cases e2 : k < j
    · rw [if_pos e2, if_pos (by omega)]
    · rw [if_neg e2, if_neg (by omega)]
theorem c95 {M : zM} {n : Nat} {D : Nat → Nat → Int} {L F : Nat → Int} {R : Option zV → zM → Prop} (hr : mRow M n D L F) (hn : 1 ≤ n)
    (h : ∀ M', zfr p95 zno M M' → mRow M' (n - 1) (fun i => D (i + 1)) (fun i => L (i + 1)) (fun i => F (i + 1)) → R none M') : zF 95 [zR 18 0] M R := by
  have hr' := hr
  obtain ⟨h1, h2, h3, h4⟩ := hr'
  have loop : ∀ (f i : Nat) (u : Option zV) (cl : Bool) (M' : zM), n - 1 - i ≤ f → i ≤ n - 1 → zfr p95 zno M M' → shI M M' n i (3 * i) → zT 95 (12, [some (zR 18 0), some (zI i), u], [], M', cl) (zq R) := by
    have done : ∀ (i : Nat) (u : Option zV) (cl : Bool) (M' : zM), i = n - 1 → zfr p95 zno M M' → shI M M' n i (3 * i) → zT 95 (12, [some (zR 18 0), some (zI i), u], [], M', cl) (zq R) := by
      intro i u cl M' e hf hs
      obtain ⟨s1, s2, s3, s4⟩ := hs
      refine g95_12 ?_
      rw [s1]
      refine ⟨by omega, fun _ => ⟨rfl, h M' hf ⟨s1, by omega, fun j hj => ?_, fun k hk => ?_⟩⟩, fun c => by omega⟩
      · rw [s4 j hj]
        split
        · exact h3 (j + 3) (by omega)
        · exact h3 j hj
      · have g := h4 (k + 1) (by omega)
        unfold mF mB at g ⊢
        dsimp only at g ⊢
        rw [s2 k (by omega), s3 k (by omega), if_pos (by omega), if_pos (by omega)]
        refine ⟨g.1, g.2.1, fun hF q hq => ?_⟩
        rw [s4 (3 * k + q) (by omega), if_pos (by omega), show 3 * k + q + 3 = 3 * (k + 1) + q by omega]
        exact g.2.2 hF q hq
    intro f
    induction f with
    | zero => intro i u cl M' hf hi hfr hs; exact done i u cl M' (by omega) hfr hs
    | succ f ih =>
      intro i u cl M' hf hi hfr hs
      by_cases e : i = n - 1
      · exact done i u cl M' e hfr hs
      · refine g95_12 ?_
        rw [hs.1]
        refine ⟨by omega, fun c => by omega, fun _ => ⟨by omega, by omega, by omega, by omega, ?_⟩⟩
        rw [show ((i : Int)).toNat = i by omega, show ((i : Int) + 1).toNat = i + 1 by omega]
        show zT 95 (50, [some (zR 18 0), some (zI i), some (zI 0)], [], z_w (z_w M' 27 0 i (M'.1 27 0 (i + 1))) 28 0 i (M'.1 28 0 (i + 1)), false) _
        have hs1 : shI M (z_w (z_w M' 27 0 i (M'.1 27 0 (i + 1))) 28 0 i (M'.1 28 0 (i + 1))) n (i + 1) (3 * i) := by
          obtain ⟨s1, s2, s3, s4⟩ := hs
          refine ⟨s1, fun k hk => ?_, fun k hk => ?_, s4⟩
          · rw [z_w_get_ne (by omega), z_w_get]
            by_cases ek : k = i
            · rw [if_pos ⟨rfl, rfl, ek⟩, if_pos (by omega), s2 (i + 1) (by omega), if_neg (by omega), ek]
            · rw [if_neg (fun q => ek q.2.2), s2 k hk]
              by_cases e2 : k < i
              · rw [if_pos e2, if_pos (by omega)]
              · rw [if_neg e2, if_neg (by omega)]
          · rw [z_w_get]
            by_cases ek : k = i
            · rw [if_pos ⟨rfl, rfl, ek⟩, if_pos (by omega), s3 (i + 1) (by omega), if_neg (by omega), ek]
            · rw [if_neg (fun q => ek q.2.2), z_w_get_ne (by omega), s3 k hk]
              by_cases e2 : k < i
              · rw [if_pos e2, if_pos (by omega)]
              · rw [if_neg e2, if_neg (by omega)]
        have hf1 : zfr p95 zno M (z_w (z_w M' 27 0 i (M'.1 27 0 (i + 1))) 28 0 i (M'.1 28 0 (i + 1))) := (hfr.w 27 0 i _ (by simp [p95])).w 28 0 i _ (by simp [p95])
        generalize z_w (z_w M' 27 0 i (M'.1 27 0 (i + 1))) 28 0 i (M'.1 28 0 (i + 1)) = M1 at hs1 hf1 ⊢
        refine g95_50a0 ⟨by omega, by omega, ?_⟩
        rw [show (3 * (i : Int) + 3 + 0).toNat = 3 * i + 3 by omega, show (3 * (i : Int) + 0).toNat = 3 * i by omega]
        have hs2 := shI_a hs1 (by omega)
        have hf2 : zfr p95 zno M (z_w M1 26 0 (3 * i) (M1.1 26 0 (3 * i + 3))) := hf1.w 26 0 _ _ (by simp [p95])
        generalize z_w M1 26 0 (3 * i) (M1.1 26 0 (3 * i + 3)) = M2 at hs2 hf2 ⊢
        refine g95_50a1 ⟨by omega, by omega, ?_⟩
        rw [show (3 * (i : Int) + 3 + 1).toNat = 3 * i + 1 + 3 by omega, show (3 * (i : Int) + 1).toNat = 3 * i + 1 by omega]
        have hs3 := shI_a hs2 (by omega)
        have hf3 : zfr p95 zno M (z_w M2 26 0 (3 * i + 1) (M2.1 26 0 (3 * i + 1 + 3))) := hf2.w 26 0 _ _ (by simp [p95])
        generalize z_w M2 26 0 (3 * i + 1) (M2.1 26 0 (3 * i + 1 + 3)) = M3 at hs3 hf3 ⊢
        refine g95_50a2 ⟨by omega, by omega, ?_⟩
        rw [show (3 * (i : Int) + 3 + 2).toNat = 3 * i + 1 + 1 + 3 by omega, show (3 * (i : Int) + 2).toNat = 3 * i + 1 + 1 by omega]
        have hs4 := shI_a hs3 (by omega)
        have hf4 : zfr p95 zno M (z_w M3 26 0 (3 * i + 1 + 1) (M3.1 26 0 (3 * i + 1 + 1 + 3))) := hf3.w 26 0 _ _ (by simp [p95])
        generalize z_w M3 26 0 (3 * i + 1 + 1) (M3.1 26 0 (3 * i + 1 + 1 + 3)) = M4 at hs4 hf4 ⊢
        refine g95_50a3 ?_
        have h9 := ih (i + 1) (some (zI 3)) false M4 (by omega) (by omega) hf4 (by rw [show 3 * (i + 1) = 3 * i + 1 + 1 + 1 by omega]; exact hs4)
        rw [show ((i + 1 : Nat) : Int) = (i : Int) + 1 by omega] at h9
        exact h9
  refine g95_0 ?_
  have h0 := loop (n - 1) 0 none false (z_w M 18 0 15 (M.1 18 0 15 - 1)) (by omega) (by omega) ((zfr.refl _ _ _).w 18 0 15 _ (by simp [p95])) ⟨by rw [z_w_get_eq, h1]; omega, fun k hk => by rw [if_neg (by omega)]; rfl, fun k hk => by rw [if_neg (by omega)]; rfl, fun k hk => by rw [if_neg (by omega)]; rfl⟩
  exact h0
