-- Ticks of a step, steps of an axis. (own work)
def isqf : Nat → Int → Int
  | 0, _ => 0
  | f + 1, s => if ((f : Int) + 1) * ((f : Int) + 1) ≤ s then (f : Int) + 1 else isqf f s
theorem isqf_r {s : Int} (hs : 0 ≤ s) : ∀ f : Nat, s < ((f : Int) + 1) * ((f : Int) + 1) → 0 ≤ isqf f s ∧ isqf f s * isqf f s ≤ s ∧ s < (isqf f s + 1) * (isqf f s + 1)
  | 0, h => by simp only [isqf]; exact ⟨by omega, by omega, by simpa using h⟩
  | f + 1, h => by
    rw [isqf]
    by_cases e : ((f : Int) + 1) * ((f : Int) + 1) ≤ s
    · rw [if_pos e]
      refine ⟨by omega, e, ?_⟩
      rw [show (((f + 1 : Nat) : Int) + 1) = (f : Int) + 1 + 1 by omega] at h
      exact h
    · rw [if_neg e]; exact isqf_r hs f (by omega)
def isq (s : Int) : Int := isqf 1000 s
theorem isq_r {s : Int} (hs : 0 ≤ s ∧ s ≤ 1000000) : 0 ≤ isq s ∧ isq s * isq s ≤ s ∧ s < (isq s + 1) * (isq s + 1) := isqf_r hs.1 1000 (by
  have : (((1000 : Nat) : Int) + 1) * (((1000 : Nat) : Int) + 1) = 1002001 := by decide
  omega)
def dl (s : Int) : Int := if isq s < 1 then 1000 else imax 1 (1000 / isq s)
theorem mul_2ak {a k : Int} (ha : 0 ≤ a ∧ a ≤ 1000) (hk : 0 ≤ k ∧ k ≤ 500) : 0 ≤ 2 * a * k ∧ 2 * a * k ≤ 1000000 := by
  have h1 : 0 ≤ a * k := Int.mul_nonneg ha.1 hk.1
  have h2 : a * k ≤ 1000 * 500 := Int.mul_le_mul ha.2 hk.2 hk.1 (by omega)
  rw [Int.mul_assoc]; omega
def sSq (top e x a l k : Int) : Int := imin top (imin (e + 2 * a * k) (x + 2 * a * (l - k + 1)))
theorem c70 {M : zM} {j : Nat} {k a : Int} {R : Option zV → zM → Prop} (he : 0 ≤ M.1 10 j 3 ∧ M.1 10 j 3 ≤ 1000000) (hx : 0 ≤ M.1 10 j 4 ∧ M.1 10 j 4 ≤ 1000000) (ht : 0 ≤ M.1 10 j 2 ∧ M.1 10 j 2 ≤ 1000000) (ha : 0 ≤ a ∧ a ≤ 1000) (hk : 1 ≤ k ∧ k ≤ M.1 10 j 1) (hl : M.1 10 j 1 ≤ 500)
    (h : R (some (zI (dl (sSq (M.1 10 j 2) (M.1 10 j 3) (M.1 10 j 4) a (M.1 10 j 1) k)))) M) : zF 70 [zR 10 j, zI k, zI a] M R := by
  have b1 := mul_2ak ha (k := k) (by omega)
  have b2 := mul_2ak ha (k := M.1 10 j 1 - k + 1) (by omega)
  have m1 := imin_r (M.1 10 j 3 + 2 * a * k) (M.1 10 j 4 + 2 * a * (M.1 10 j 1 - k + 1))
  have m2 := imin_r (M.1 10 j 2) (imin (M.1 10 j 3 + 2 * a * k) (M.1 10 j 4 + 2 * a * (M.1 10 j 1 - k + 1)))
  refine g70_0 (c35 (by omega) (by omega) ⟨_, rfl, fun _ => c35 (by omega) (by omega) ⟨_, rfl, fun _ => c69 (by omega) fun r r0 r1 r2 r3 => ⟨_, rfl, fun _ => ?_⟩⟩⟩)
  have hq := isq_r (s := imin (M.1 10 j 2) (imin (M.1 10 j 3 + 2 * a * k) (M.1 10 j 4 + 2 * a * (M.1 10 j 1 - k + 1)))) (by omega)
  have e := sq_uniq r0 hq.1 r2 r3 hq.2.1 hq.2.2
  unfold dl sSq at h
  rw [← e] at h
  have hdiv : 1 ≤ r → 0 ≤ 1000 / r ∧ 1000 / r ≤ 1000 := fun hr => ⟨Int.ediv_nonneg (by omega) (by omega), Int.ediv_le_self _ (by omega)⟩
  refine ⟨by omega, fun c => ⟨by omega, c32 (by omega) (by have := hdiv c; omega) ⟨_, rfl, fun _ => ⟨rfl, ?_⟩⟩⟩, fun c => ⟨rfl, ?_⟩⟩
  · rw [if_neg (by omega)] at h; exact h
  · rw [if_pos (by omega)] at h; exact h
-- how far an axis has come
def sAf (s l m : Int) : Int := if 1 ≤ l then (if 0 ≤ s then (2 * iab s * m + l) / (2 * l) else -((2 * iab s * m + l) / (2 * l))) else 0
theorem mul_500 {x m : Int} (hx : 0 ≤ x ∧ x ≤ 500) (hm : 0 ≤ m ∧ m ≤ 500) : 0 ≤ 2 * x * m ∧ 2 * x * m ≤ 1000000 := mul_2ak (by omega) hm
theorem c74 {M : zM} {j a : Nat} {m : Int} {R : Option zV → zM → Prop} (ha : a < 3) (hs : -500 ≤ M.1 11 j a ∧ M.1 11 j a ≤ 500) (hl : 0 ≤ M.1 10 j 1 ∧ M.1 10 j 1 ≤ 500) (hm : 0 ≤ m ∧ m ≤ 500)
    (h : R (some (zI (sAf (M.1 11 j a) (M.1 10 j 1) m))) M) : zF 74 [zR 10 j, zI a, zI m] M R := by
  have hi := iab_r (M.1 11 j a)
  have hb := mul_500 (x := iab (M.1 11 j a)) (m := m) (by omega) hm
  refine g74_0 ?_
  rw [Int.toNat_natCast]
  refine ⟨by omega, fun c => ⟨by omega, c27 (by omega) ⟨_, rfl, fun _ => ⟨by omega, by omega, by omega, fun c2 => ⟨rfl, ?_⟩, fun c2 => ⟨rfl, ?_⟩⟩⟩⟩, fun c => ⟨rfl, ?_⟩⟩
  · rw [sAf, if_pos c, if_pos c2] at h; exact h
  · rw [sAf, if_pos c, if_neg c2] at h; exact h
  · rw [sAf, if_neg c] at h; exact h
theorem c94 {M : zM} {a : Nat} {R : Option zV → zM → Prop} (ha : a < 3) (hk : okM M 0) (hl : 1 ≤ mLn M 0) (hm : 0 ≤ M.1 18 0 23 ∧ M.1 18 0 23 ≤ 500)
    (h : R (some (zI (M.1 29 0 a + sAf (mB M 0 a) (mLn M 0) (M.1 18 0 23)))) M) : zF 94 [zR 18 0, zI a] M R := by
  have hb0 := hk.2 a ha
  have hi := iab_r (mB M 0 a)
  have hb := mul_500 (x := iab (mB M 0 a)) (m := M.1 18 0 23) (by omega) hm
  have hl2 : mLn M 0 ≤ 500 := by have := len3_r hk.2; unfold mLn; split <;> omega
  have eb : M.1 26 0 a = mB M 0 a := by unfold mB; rw [Nat.mul_zero, Nat.zero_add]
  refine g94_0 (c89 (i := 0) (by omega) hk ⟨_, rfl, fun _ => ?_⟩)
  rw [Int.toNat_natCast, eb]
  refine ⟨by omega, c59 (by omega) ⟨_, rfl, fun _ => ⟨by omega, by omega, by omega, fun c2 => ⟨rfl, ?_⟩, fun c2 => ⟨rfl, ?_⟩⟩⟩⟩
  · rw [sAf, if_pos hl, if_pos c2] at h; exact h
  · rw [sAf, if_pos hl, if_neg c2] at h; exact h
