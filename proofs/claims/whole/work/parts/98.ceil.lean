-- The reference's ceilings and lengths. (own work)
def mB (M : zM) (i : Nat) : Nat → Int := fun x => M.1 26 0 (3 * i + x)
def mF (M : zM) (i : Nat) : Int := M.1 27 0 i
theorem c86 {M : zM} {i k : Nat} {R : Option zV → zM → Prop} (hi : i < 9) (hk : k < 9) (bi : b500 (mB M i)) (bk : b500 (mB M k)) (h : R (some (zJ (dot (mB M i) (mB M k)))) M) : zF 86 [zR 18 0, zI i, zI k] M R := by
  have e : ∀ (q : Nat) (x : Nat), ((3 * (q : Int)) + (x : Int)).toNat = 3 * q + x := fun q x => by omega
  have e0 := e i 0; have e1 := e i 1; have e2 := e i 2
  have f0 := e k 0; have f1 := e k 1; have f2 := e k 2
  have i0 := bi 0 (by omega); have i1 := bi 1 (by omega); have i2 := bi 2 (by omega)
  have k0 := bk 0 (by omega); have k1 := bk 1 (by omega); have k2 := bk 2 (by omega)
  unfold mB at i0 i1 i2 k0 k1 k2
  refine g86_0 ?_
  rw [show ((3 * (i : Int)) + 0).toNat = 3 * i + 0 from e0, show ((3 * (i : Int)) + 1).toNat = 3 * i + 1 from e1, show ((3 * (i : Int)) + 2).toNat = 3 * i + 2 from e2, show ((3 * (k : Int)) + 0).toNat = 3 * k + 0 from f0, show ((3 * (k : Int)) + 1).toNat = 3 * k + 1 from f1, show ((3 * (k : Int)) + 2).toNat = 3 * k + 2 from f2]
  refine ⟨by omega, by omega, by omega, by omega, by omega, by omega, by omega, by omega, by omega, by omega, by omega, by omega, rfl, ?_⟩
  rw [Int.zero_add]; exact h
theorem c87 {M : zM} {i : Nat} {R : Option zV → zM → Prop} (hi : i < 9) (hf : zr (mF M i)) (h : R (some (zJ (mF M i * mF M i))) M) : zF 87 [zR 18 0, zI i] M R := by
  unfold mF at hf h
  refine g87_0 ?_
  rw [Int.toNat_natCast]
  exact ⟨by omega, hf, by omega, hf, rfl, h⟩
theorem dot_comm (a b : Nat → Int) : dot a b = dot b a := by
  unfold dot
  rw [Int.mul_comm (a 0), Int.mul_comm (a 1), Int.mul_comm (a 2)]
def mCl (M : zM) (i : Nat) : Int := if mF M i = 0 ∨ mF M (i - 1) = 0 then 0 else imin (mF M i * mF M i) (jn (mB M (i - 1)) (mB M i) (mF M (i - 1) * mF M (i - 1)) (mF M i * mF M i))
abbrev okM (M : zM) (i : Nat) : Prop := (0 ≤ mF M i ∧ mF M i ≤ 1000) ∧ b500 (mB M i)
theorem sq_b {x : Int} (h : 0 ≤ x ∧ x ≤ 1000) : 0 ≤ x * x ∧ x * x ≤ 1000000 :=
  ⟨sq_nn x, sq_mono h.1 h.2⟩
theorem c88 {M : zM} {i : Nat} {R : Option zV → zM → Prop} (hi : 1 ≤ i ∧ i < 9) (h0 : okM M (i - 1)) (h1 : okM M i) (h : R (some (zJ (mCl M i))) M) : zF 88 [zR 18 0, zI i] M R := by
  have ei : ((i : Int) - 1) = ((i - 1 : Nat) : Int) := by omega
  have q0 := sq_b h0.1
  have q1 := sq_b h1.1
  have f0 := h0.1
  have f1 := h1.1
  have hab := dot_b h1.2 h0.2
  have last : ∀ (s t : Int) (u4 u5 u6 u7 : Option zV) (cl : Bool), ¬ (mF M i = 0 ∨ mF M (i - 1) = 0) → s = dot (mB M i) (mB M (i - 1)) → 0 < s → t = imin (mF M (i - 1) * mF M (i - 1)) (mF M i * mF M i) → zT 88 (72, [some (zR 18 0), some (zI i), some (zJ s), none, u4, u5, u6, u7], [zJ t], M, cl) (zq R) := by
    intro s t u4 u5 u6 u7 cl hn hs hs0 ht
    have hm := imin_r (mF M (i - 1) * mF M (i - 1)) (mF M i * mF M i)
    have hg := jn_g (t := t) h0.2 h1.2 (by omega) (by rw [dot_comm]; omega)
    have hj : jn (mB M (i - 1)) (mB M i) (mF M (i - 1) * mF M (i - 1)) (mF M i * mF M i) = t * s * s / (dot (mB M i) (mB M i) * dot (mB M (i - 1)) (mB M (i - 1))) := by
      rw [jn, if_neg (by rw [dot_comm]; omega), dot_comm (mB M (i - 1)) (mB M i), ← hs, ← ht, Int.mul_comm (dot (mB M (i - 1)) (mB M (i - 1)))]
    rw [dot_comm (mB M (i - 1)) (mB M i), ← hs, Int.mul_comm (dot (mB M (i - 1)) (mB M (i - 1)))] at hg
    have hc := imin_r (mF M i * mF M i) (jn (mB M (i - 1)) (mB M i) (mF M (i - 1) * mF M (i - 1)) (mF M i * mF M i))
    rw [mCl, if_neg hn] at h
    refine g88_72 ?_
    rw [ei]
    refine c86 (by omega) (by omega) h1.2 h1.2 ⟨_, rfl, fun _ => c86 (by omega) (by omega) h0.2 h0.2 ⟨_, rfl, fun _ => ⟨by omega, c87 (by omega) (by omega) ⟨_, rfl, fun _ => ?_⟩⟩⟩⟩
    rw [← hj]
    refine ⟨by omega, fun c => c87 (by omega) (by omega) ⟨_, rfl, fun _ => ⟨rfl, ?_⟩⟩, fun c => ⟨rfl, ?_⟩⟩
    · rw [show imin (mF M i * mF M i) (jn (mB M (i - 1)) (mB M i) (mF M (i - 1) * mF M (i - 1)) (mF M i * mF M i)) = mF M i * mF M i by omega] at h; exact h
    · rw [show imin (mF M i * mF M i) (jn (mB M (i - 1)) (mB M i) (mF M (i - 1) * mF M (i - 1)) (mF M i * mF M i)) = jn (mB M (i - 1)) (mB M i) (mF M (i - 1) * mF M (i - 1)) (mF M i * mF M i) by omega] at h; exact h
  have mid : ∀ (s : Int) (u2 u3 u4 u5 u6 u7 : Option zV) (cl : Bool), (mF M i = 0 ∨ mF M (i - 1) = 0) ∧ s = 0 ∨ ¬ (mF M i = 0 ∨ mF M (i - 1) = 0) ∧ s = dot (mB M i) (mB M (i - 1)) → zT 88 (32, [some (zR 18 0), some (zI i), u2, u3, u4, u5, u6, u7], [zJ s], M, cl) (zq R) := by
    intro s u2 u3 u4 u5 u6 u7 cl hs
    have hm := imin_r (mF M (i - 1) * mF M (i - 1)) (mF M i * mF M i)
    refine g88_32 ?_
    rw [ei]
    refine ⟨by omega, fun c => ?_, fun c => ⟨rfl, ?_⟩⟩
    · have hs1 : ¬ (mF M i = 0 ∨ mF M (i - 1) = 0) ∧ s = dot (mB M i) (mB M (i - 1)) := by
        rcases hs with hs | hs
        · omega
        · exact hs
      refine c87 (by omega) (by omega) ⟨_, rfl, fun _ => c87 (by omega) (by omega) ⟨_, rfl, fun _ => ⟨by omega, fun c2 => c87 (by omega) (by omega) ⟨_, rfl, fun _ => last _ _ _ _ _ _ _ hs1.1 hs1.2 c (by omega)⟩, fun c2 => c87 (by omega) (by omega) ⟨_, rfl, fun _ => last _ _ _ _ _ _ _ hs1.1 hs1.2 c (by omega)⟩⟩⟩⟩
    · have e : mCl M i = 0 := by
        unfold mCl
        by_cases hq : mF M i = 0 ∨ mF M (i - 1) = 0
        · rw [if_pos hq]
        · rw [if_neg hq]
          have hd : dot (mB M (i - 1)) (mB M i) ≤ 0 := by
            rcases hs with hs | hs
            · exact absurd hs.1 hq
            · rw [dot_comm]; omega
          rw [jn, if_pos hd]
          have := imin_r (mF M i * mF M i) 0
          omega
      rw [e] at h; exact h
  refine g88_0 ?_
  rw [ei, Int.toNat_natCast, Int.toNat_natCast]
  unfold mF at f0 f1 mid
  refine ⟨by omega, by omega, fun c => mid 0 _ _ _ _ _ _ _ (Or.inl ⟨Or.inl c, rfl⟩), fun c => ⟨by omega, by omega, fun c2 => c86 (by omega) (by omega) h1.2 h0.2 ⟨_, rfl, fun _ => mid _ _ _ _ _ _ _ _ (Or.inr ⟨by omega, rfl⟩)⟩, fun c2 => mid 0 _ _ _ _ _ _ _ (Or.inl ⟨Or.inr c2, rfl⟩)⟩⟩
