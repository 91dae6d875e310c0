-- Lengths of moves. (own work)
def len1 (a : Nat → Int) : Int := imax 0 (iab (a 0))
def len2 (a : Nat → Int) : Int := imax (len1 a) (iab (a 1))
def len3 (a : Nat → Int) : Int := imax (len2 a) (iab (a 2))
theorem len3_r {a : Nat → Int} (h : b500 a) : (0 ≤ len1 a ∧ len1 a ≤ 500) ∧ (0 ≤ len2 a ∧ len2 a ≤ 500) ∧ (0 ≤ len3 a ∧ len3 a ≤ 500) := by
  have h0 := h 0 (by omega); have h1 := h 1 (by omega); have h2 := h 2 (by omega)
  have i0 := iab_r (a 0); have i1 := iab_r (a 1); have i2 := iab_r (a 2)
  have m0 := imax_r 0 (iab (a 0)); have m1 := imax_r (len1 a) (iab (a 1)); have m2 := imax_r (len2 a) (iab (a 2))
  have e1 : len1 a = imax 0 (iab (a 0)) := rfl
  have e2 : len2 a = imax (len1 a) (iab (a 1)) := rfl
  have e3 : len3 a = imax (len2 a) (iab (a 2)) := rfl
  omega
theorem len3_pos {a : Nat → Int} (h : b500 a) (hn : ¬ (a 0 = 0 ∧ a 1 = 0 ∧ a 2 = 0)) : 1 ≤ len3 a := by
  have i0 := iab_r (a 0); have i1 := iab_r (a 1); have i2 := iab_r (a 2)
  have m0 := imax_r 0 (iab (a 0)); have m1 := imax_r (len1 a) (iab (a 1)); have m2 := imax_r (len2 a) (iab (a 2))
  have e1 : len1 a = imax 0 (iab (a 0)) := rfl
  have e2 : len2 a = imax (len1 a) (iab (a 1)) := rfl
  have e3 : len3 a = imax (len2 a) (iab (a 2)) := rfl
  omega
theorem len3_le {a : Nat → Int} : iab (a 0) ≤ len3 a ∧ iab (a 1) ≤ len3 a ∧ iab (a 2) ≤ len3 a := by
  have m0 := imax_r 0 (iab (a 0)); have m1 := imax_r (len1 a) (iab (a 1)); have m2 := imax_r (len2 a) (iab (a 2))
  have e1 : len1 a = imax 0 (iab (a 0)) := rfl
  have e2 : len2 a = imax (len1 a) (iab (a 1)) := rfl
  have e3 : len3 a = imax (len2 a) (iab (a 2)) := rfl
  omega
def mLn (M : zM) (i : Nat) : Int := if mF M i ≤ 0 then 0 else len3 (mB M i)
theorem c89_a0 {M : zM} {i : Nat} {x2 : Int} {cl : Bool} {Q : zQ} (hi : i < 9) (hk : okM M i) (hf : ¬ mF M i ≤ 0) (hx : 0 ≤ x2 ∧ x2 ≤ 500)
    (h : ∀ cl : Bool, zT 89 (4, [some (zR 18 0), some (zI i), some (zI (imax x2 (iab (mB M i 0)))), some (zI 1)], [], M, cl) Q) : zT 89 (4, [some (zR 18 0), some (zI i), some (zI x2), some (zI 0)], [], M, cl) Q := by
  have f0 := hk.1
  have b0 := hk.2 0 (by omega)
  have i0 := iab_r (mB M i 0)
  have m0 := imax_r x2 (iab (mB M i 0))
  have e : ((3 * (i : Int)) + 0).toNat = 3 * i + 0 := by omega
  refine g89_4a0 ?_
  rw [e, Int.toNat_natCast]
  unfold mF at f0 hf
  unfold mB at b0 i0 m0 h
  refine ⟨by omega, by omega, fun c => absurd c hf, fun c => ⟨by omega, c59 (by omega) ⟨_, rfl, fun cl1 => ⟨by omega, fun c2 => ?_, fun c2 => ⟨by omega, c59 (by omega) ⟨_, rfl, fun cl2 => ?_⟩⟩⟩⟩⟩⟩
  · have h1 := h cl1
    rw [show imax x2 (iab (M.1 26 0 (3 * i + 0))) = x2 by omega] at h1; exact h1
  · have h1 := h cl2
    rw [show imax x2 (iab (M.1 26 0 (3 * i + 0))) = iab (M.1 26 0 (3 * i + 0)) by omega] at h1; exact h1
theorem c89_a1 {M : zM} {i : Nat} {x2 : Int} {cl : Bool} {Q : zQ} (hi : i < 9) (hk : okM M i) (hf : ¬ mF M i ≤ 0) (hx : 0 ≤ x2 ∧ x2 ≤ 500)
    (h : ∀ cl : Bool, zT 89 (4, [some (zR 18 0), some (zI i), some (zI (imax x2 (iab (mB M i 1)))), some (zI 2)], [], M, cl) Q) : zT 89 (4, [some (zR 18 0), some (zI i), some (zI x2), some (zI 1)], [], M, cl) Q := by
  have f0 := hk.1
  have b0 := hk.2 1 (by omega)
  have i0 := iab_r (mB M i 1)
  have m0 := imax_r x2 (iab (mB M i 1))
  have e : ((3 * (i : Int)) + 1).toNat = 3 * i + 1 := by omega
  refine g89_4a1 ?_
  rw [e, Int.toNat_natCast]
  unfold mF at f0 hf
  unfold mB at b0 i0 m0 h
  refine ⟨by omega, by omega, fun c => absurd c hf, fun c => ⟨by omega, c59 (by omega) ⟨_, rfl, fun cl1 => ⟨by omega, fun c2 => ?_, fun c2 => ⟨by omega, c59 (by omega) ⟨_, rfl, fun cl2 => ?_⟩⟩⟩⟩⟩⟩
  · have h1 := h cl1
    rw [show imax x2 (iab (M.1 26 0 (3 * i + 1))) = x2 by omega] at h1; exact h1
  · have h1 := h cl2
    rw [show imax x2 (iab (M.1 26 0 (3 * i + 1))) = iab (M.1 26 0 (3 * i + 1)) by omega] at h1; exact h1
theorem c89_a2 {M : zM} {i : Nat} {x2 : Int} {cl : Bool} {Q : zQ} (hi : i < 9) (hk : okM M i) (hf : ¬ mF M i ≤ 0) (hx : 0 ≤ x2 ∧ x2 ≤ 500)
    (h : ∀ cl : Bool, zT 89 (4, [some (zR 18 0), some (zI i), some (zI (imax x2 (iab (mB M i 2)))), some (zI 3)], [], M, cl) Q) : zT 89 (4, [some (zR 18 0), some (zI i), some (zI x2), some (zI 2)], [], M, cl) Q := by
  have f0 := hk.1
  have b0 := hk.2 2 (by omega)
  have i0 := iab_r (mB M i 2)
  have m0 := imax_r x2 (iab (mB M i 2))
  have e : ((3 * (i : Int)) + 2).toNat = 3 * i + 2 := by omega
  refine g89_4a2 ?_
  rw [e, Int.toNat_natCast]
  unfold mF at f0 hf
  unfold mB at b0 i0 m0 h
  refine ⟨by omega, by omega, fun c => absurd c hf, fun c => ⟨by omega, c59 (by omega) ⟨_, rfl, fun cl1 => ⟨by omega, fun c2 => ?_, fun c2 => ⟨by omega, c59 (by omega) ⟨_, rfl, fun cl2 => ?_⟩⟩⟩⟩⟩⟩
  · have h1 := h cl1
    rw [show imax x2 (iab (M.1 26 0 (3 * i + 2))) = x2 by omega] at h1; exact h1
  · have h1 := h cl2
    rw [show imax x2 (iab (M.1 26 0 (3 * i + 2))) = iab (M.1 26 0 (3 * i + 2)) by omega] at h1; exact h1
theorem c89 {M : zM} {i : Nat} {R : Option zV → zM → Prop} (hi : i < 9) (hk : okM M i) (h : R (some (zI (mLn M i))) M) : zF 89 [zR 18 0, zI i] M R := by
  have hr := len3_r hk.2
  have f0 := hk.1
  by_cases hf : mF M i ≤ 0
  · rw [mLn, if_pos hf] at h
    refine g89_0 (g89_4a0 ?_)
    rw [Int.toNat_natCast]
    unfold mF at hf f0
    exact ⟨by omega, by omega, fun c => ⟨rfl, h⟩, fun c => absurd hf c⟩
  · rw [mLn, if_neg hf] at h
    refine g89_0 (c89_a0 hi hk hf (by omega) fun _ => ?_)
    refine c89_a1 hi hk hf hr.1 fun _ => ?_
    refine c89_a2 hi hk hf hr.2.1 fun _ => ?_
    exact g89_4a3 ⟨rfl, h⟩
-- the class's move
theorem z_w_get_ne {m : zM} {k j s : Nat} {v : Int} {a b c : Nat} (h : ¬ (a = k ∧ b = j ∧ c = s)) : (z_w m k j s v).1 a b c = m.1 a b c := by rw [z_w_get, if_neg h]
theorem z_w_get_eq {m : zM} {k j s : Nat} {v : Int} : (z_w m k j s v).1 k j s = v := by rw [z_w_get, if_pos ⟨rfl, rfl, rfl⟩]
def bMv (M : zM) : Nat → Int := fun a => M.1 17 0 a - M.1 15 0 a
theorem c33 {M : zM} {j : Nat} {sp : Int} {R : Option zV → zM → Prop} (hb : b500 (bMv M))
    (h : ∀ M', zfr (fun k _ => k = 10 ∨ k = 11) zno M M' → (∀ b, ¬ b = j → ∀ s, M'.1 10 b s = M.1 10 b s ∧ M'.1 11 b s = M.1 11 b s) → (∀ a, a < 3 → M'.1 11 j a = bMv M a) → M'.1 10 j 1 = len3 (bMv M) → M'.1 10 j 2 = sp * sp → M'.1 10 j 3 = M.1 10 j 3 → M'.1 10 j 4 = M.1 10 j 4 → R none M') : zF 33 [zR 10 j, zR 15 0, zR 17 0, zI sp] M R := by
  have hr := len3_r hb
  have h0 := hb 0 (by omega); have h1 := hb 1 (by omega); have h2 := hb 2 (by omega)
  have i0 := iab_r (bMv M 0); have i1 := iab_r (bMv M 1); have i2 := iab_r (bMv M 2)
  have e0 : M.1 17 0 0 - M.1 15 0 0 = bMv M 0 := rfl
  have e1 : M.1 17 0 1 - M.1 15 0 1 = bMv M 1 := rfl
  have e2 : M.1 17 0 2 - M.1 15 0 2 = bMv M 2 := rfl
  refine g33_0_15_17 ?_
  rw [z_w_get_eq, z_w_get_eq, e0]
  refine c27 (by omega) ⟨_, rfl, fun _ => c32 (by omega) (by omega) ⟨_, rfl, fun _ => ?_⟩⟩
  rw [z_w_get_eq, z_w_get_eq]
  refine c27 (a := bMv M 1) (by omega) ⟨_, rfl, fun _ => c32 (a := len1 (bMv M)) (by omega) (by omega) ⟨_, rfl, fun _ => ?_⟩⟩
  rw [z_w_get_eq, z_w_get_eq]
  refine c27 (a := bMv M 2) (by omega) ⟨_, rfl, fun _ => c32 (a := len2 (bMv M)) (by omega) (by omega) ⟨_, rfl, fun _ => ⟨rfl, ?_⟩⟩⟩
  have P10 : ∀ s, (fun k (_ : Nat) => k = 10 ∨ k = 11) 10 s := fun _ => Or.inl rfl
  have P11 : ∀ s, (fun k (_ : Nat) => k = 10 ∨ k = 11) 11 s := fun _ => Or.inr rfl
  refine h _ (((((((((zfr.refl _ _ _).w 10 j 1 _ (P10 1)).w 11 j 0 _ (P11 0)).w 10 j 1 _ (P10 1)).w 11 j 1 _ (P11 1)).w 10 j 1 _ (P10 1)).w 11 j 2 _ (P11 2)).w 10 j 1 _ (P10 1)).w 10 j 2 _ (P10 2)) (fun b hb s => ?_) (fun a ha => ?_) ?_ ?_ ?_ ?_
  · simp [z_w_get, hb]
  · match a with
    | 0 => simp [z_w_get]
    | 1 => simp [z_w_get]; rfl
    | 2 => simp [z_w_get]; rfl
    | a + 3 => omega
  · simp [z_w_get]; rfl
  · simp [z_w_get]
  · simp [z_w_get]
  · simp [z_w_get]
