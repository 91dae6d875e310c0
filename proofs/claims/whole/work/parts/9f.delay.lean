-- The reference's delay. (own work)
theorem c92 {M : zM} {R : Option zV → zM → Prop} (hk : okM M 0) (hf : 1 ≤ mF M 0) (ha : 1 ≤ M.1 18 0 0 ∧ M.1 18 0 0 ≤ 1000) (hm : 0 ≤ M.1 18 0 23 ∧ M.1 18 0 23 + 1 ≤ mLn M 0) (he : 0 ≤ M.2.1 18 0 20 ∧ M.2.1 18 0 20 ≤ 1000000) (hx : 0 ≤ M.2.1 18 0 21 ∧ M.2.1 18 0 21 ≤ 1000000)
    (h : R (some (zI (dl (sSq (mF M 0 * mF M 0) (M.2.1 18 0 20) (M.2.1 18 0 21) (M.1 18 0 0) (mLn M 0) (M.1 18 0 23 + 1))))) M) : zF 92 [zR 18 0] M R := by
  have hl2 : mLn M 0 ≤ 500 := by have := len3_r hk.2; unfold mLn; split <;> omega
  have hq := sq_b hk.1
  have hq1 : 1 ≤ mF M 0 * mF M 0 := sq_mono (show (0 : Int) ≤ 1 by omega) hf
  have b1 := mul_2ak (a := M.1 18 0 0) (k := M.1 18 0 23 + 1) (by omega) (by omega)
  have b2 := mul_2ak (a := M.1 18 0 0) (k := mLn M 0 - (M.1 18 0 23 + 1) + 1) (by omega) (by omega)
  have p1 : 1 ≤ 2 * M.1 18 0 0 * (M.1 18 0 23 + 1) := by
    have := Int.mul_le_mul (show (1 : Int) ≤ 2 * M.1 18 0 0 by omega) (show (1 : Int) ≤ M.1 18 0 23 + 1 by omega) (by omega) (by omega); omega
  have p2 : 1 ≤ 2 * M.1 18 0 0 * (mLn M 0 - (M.1 18 0 23 + 1) + 1) := by
    have := Int.mul_le_mul (show (1 : Int) ≤ 2 * M.1 18 0 0 by omega) (show (1 : Int) ≤ mLn M 0 - (M.1 18 0 23 + 1) + 1 by omega) (by omega) (by omega); omega
  have m1 := imin_r (M.2.1 18 0 20 + 2 * M.1 18 0 0 * (M.1 18 0 23 + 1)) (M.2.1 18 0 21 + 2 * M.1 18 0 0 * (mLn M 0 - (M.1 18 0 23 + 1) + 1))
  have m2 := imin_r (mF M 0 * mF M 0) (imin (M.2.1 18 0 20 + 2 * M.1 18 0 0 * (M.1 18 0 23 + 1)) (M.2.1 18 0 21 + 2 * M.1 18 0 0 * (mLn M 0 - (M.1 18 0 23 + 1) + 1)))
  have last : ∀ (s : Int) (x3 : Int) (u5 : Option zV) (cl : Bool), s = sSq (mF M 0 * mF M 0) (M.2.1 18 0 20) (M.2.1 18 0 21) (M.1 18 0 0) (mLn M 0) (M.1 18 0 23 + 1) → zT 92 (114, [some (zR 18 0), some (zI (M.1 18 0 23 + 1)), some (zI (mLn M 0)), some (zJ x3), none, u5], [zJ s], M, cl) (zq R) := by
    intro s x3 u5 cl hs
    have hs1 : 1 ≤ s ∧ s ≤ 1000000 := by rw [hs]; unfold sSq; omega
    refine g92_114 (c91 (by omega) fun r r0 r1 r2 r3 => ⟨_, rfl, fun _ => ?_⟩)
    have hqq := isq_r (s := s) (by omega)
    have e := sq_uniq r0 hqq.1 r2 r3 hqq.2.1 hqq.2.2
    have hr1 : 1 ≤ r := by
      by_cases q : 1 ≤ r
      · exact q
      · have e0 : r = 0 := by omega
        subst e0; omega
    have hd1 : 0 ≤ 1000 / r := Int.ediv_nonneg (by omega) (by omega)
    have hd2 : 1000 / r ≤ 1000 := Int.ediv_le_self _ (by omega)
    have hmx := imax_r 1 (1000 / r)
    rw [← hs, dl, ← e, if_neg (by omega)] at h
    refine ⟨by omega, by omega, fun c => ⟨rfl, ?_⟩, fun c => ⟨rfl, ?_⟩⟩
    · rw [show imax 1 (1000 / r) = 1000 / r by omega] at h; exact h
    · rw [show imax 1 (1000 / r) = 1 by omega] at h; exact h
  have mid : ∀ (s : Int) (x3 : Int) (u5 : Option zV) (cl : Bool), s = imin (mF M 0 * mF M 0) (M.2.1 18 0 20 + 2 * M.1 18 0 0 * (M.1 18 0 23 + 1)) → zT 92 (62, [some (zR 18 0), some (zI (M.1 18 0 23 + 1)), some (zI (mLn M 0)), some (zJ x3), none, u5], [zJ s], M, cl) (zq R) := by
    intro s x3 u5 cl hs
    have m3 := imin_r (mF M 0 * mF M 0) (M.2.1 18 0 20 + 2 * M.1 18 0 0 * (M.1 18 0 23 + 1))
    refine g92_62 ⟨by omega, by omega, by omega, fun c => last _ _ _ _ ?_, fun c => ⟨by omega, by omega, last _ _ _ _ ?_⟩⟩
    · unfold sSq; omega
    · unfold sSq; omega
  refine g92_0 (c89 (i := 0) (by omega) hk ⟨_, rfl, fun _ => c87 (i := 0) (by omega) (by omega) ⟨_, rfl, fun _ => ⟨by omega, by omega, by omega, fun c => mid _ _ _ _ ?_, fun c => ⟨by omega, by omega, mid _ _ _ _ ?_⟩⟩⟩⟩)
  · have := imin_r (mF M 0 * mF M 0) (M.2.1 18 0 20 + 2 * M.1 18 0 0 * (M.1 18 0 23 + 1)); omega
  · have := imin_r (mF M 0 * mF M 0) (M.2.1 18 0 20 + 2 * M.1 18 0 0 * (M.1 18 0 23 + 1)); omega
