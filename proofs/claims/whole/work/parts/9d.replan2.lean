-- replan, whole. (own work)
theorem c38 {M : zM} {c d : Nat → Nat} {st given n : Nat} {R : Option zV → zM → Prop} (hr : rwOk M c d st n) (hg : given ≤ 1000000)
    (hw : (M.1 8 0 4 = 0 ∧ st = 0 ∧ given = 0) ∨ (M.1 8 0 4 = 1 ∧ st = 1 ∧ (given : Int) = M.1 10 (bN M 0) 4))
    (h0 : n ≤ st → R none M)
    (h1 : st < n → ∀ M', zfr p38 zno M M' → M'.1 10 (bN M st) 3 = (given : Int) → (∀ q, st < q → q < n → M'.1 10 (bN M q) 3 = (pm_dn (fun q => pm_up c d st given (q - st)) d n (n - q) : Int)) → (∀ b, (∀ q, st ≤ q → q < n → ¬ b = bN M q) → M'.1 10 b 3 = M.1 10 b 3) → R none M') : zF 38 [zR 8 0] M R := by
  have h8 := hr.2.2.1
  have go : st < n → ∀ (u3 u4 u5 : Option zV) (cl : Bool), zT 38 (53, [some (zR 8 0), some (zI st), some (zI ((st : Int) + 1)), u3, u4, u5], [], z_w M 10 (bN M st) 3 given, cl) (zq R) := by
    intro hst u3 u4 u5 cl
    have key := c38_up (R := R) hr hg hst (h1 hst) (n - (st + 1)) (st + 1) u3 u4 u5 cl (z_w M 10 (bN M st) 3 given) (by omega) (by omega) (by omega) ((zfr.refl _ _ _).w 10 _ 3 _ ⟨rfl, rfl⟩) (fun q q1 q2 => by
      obtain rfl : q = st := by omega
      rw [z_w_get_eq, Nat.sub_self]; rfl) (fun b hb => z_w_get_ne (fun hq => hb st (Nat.le_refl _) hst hq.2.1))
    rw [show ((st + 1 : Nat) : Int) = (st : Int) + 1 by omega] at key
    exact key
  refine g38_0 ?_
  rw [hr.2.1]
  rcases hw with ⟨w1, w2, w3⟩ | ⟨w1, w2, w3⟩
  · subst w2; subst w3
    rw [w1]
    refine ⟨by omega, fun _ => ⟨by omega, fun c1 => c31 hr.1 (by omega) ⟨_, rfl, fun _ => ?_⟩, fun c1 => ⟨rfl, h0 (by omega)⟩⟩, fun c1 => absurd rfl c1⟩
    rw [w1]
    exact ⟨by omega, fun _ => go (by omega) _ _ _ _, fun c2 => absurd rfl c2⟩
  · subst w2
    rw [w1]
    refine ⟨by omega, fun c1 => by omega, fun _ => ⟨by omega, fun c1 => c31 hr.1 (by omega) ⟨_, rfl, fun _ => ?_⟩, fun c1 => ⟨rfl, h0 (by omega)⟩⟩⟩
    rw [w1]
    refine ⟨by omega, fun c2 => by omega, fun _ => c31 hr.1 (by omega) ⟨_, rfl, fun _ => ?_⟩⟩
    show zT 38 (53, [some (zR 8 0), some (zI 1), some (zI 2), none, none, none], [], z_w M 10 (bN M 1) 3 (M.1 10 (bN M 0) 4), false) _
    rw [← w3]
    exact go (by omega) _ _ _ _
-- exitOf
theorem c67 {M : zM} {i n : Nat} {R : Option zV → zM → Prop} (hf : 0 ≤ M.1 8 0 2 ∧ M.1 8 0 2 ≤ 7) (hn : M.1 8 0 3 = (n : Int)) (h8 : n ≤ 8) (hi : i < n) (hw : M.1 8 0 4 = 0 ∨ M.1 8 0 4 = 1)
    (h : R (some (zI (if M.1 8 0 4 = 1 ∧ i = 0 then M.1 10 (bN M 0) 4 else if i + 1 < n then M.1 10 (bN M (i + 1)) 3 else 0))) M) : zF 67 [zR 8 0, zI i] M R := by
  have e1 : ((i : Int) + 1) = ((i + 1 : Nat) : Int) := by omega
  refine g67_0 ?_
  rw [hn, e1]
  have beh : ¬ (M.1 8 0 4 = 1 ∧ i = 0) → ∀ cl : Bool, (zr ((i + 1 : Nat) : Int) ∧ zr (n : Int)) ∧ (((n : Int) ≤ ((i + 1 : Nat) : Int) → zq R (.inl (some (zI 0))) M true 0) ∧ (¬ ((n : Int) ≤ ((i + 1 : Nat) : Int)) → zF 31 [zR 8 0, zI ((i + 1 : Nat) : Int)] M (fun v M1 => ∃ r1 : Nat, v = some (zR 10 r1) ∧ ∀ cl1 : Bool, zq R (.inl (some (zI (M1.1 10 r1 3)))) M1 cl1 0))) := by
    intro hno cl
    rw [if_neg hno] at h
    refine ⟨by omega, fun c => ⟨rfl, ?_⟩, fun c => c31 hf (by omega) ⟨_, rfl, fun _ => ⟨rfl, ?_⟩⟩⟩
    · rw [if_neg (by omega)] at h; exact h
    · rw [if_pos (by omega)] at h; exact h
  refine ⟨by omega, fun c => beh (by omega) true, fun c => ⟨by omega, fun c2 => beh (by omega) true, fun c2 => c31 hf (by omega) ⟨_, rfl, fun _ => ⟨rfl, ?_⟩⟩⟩⟩
  rw [if_pos (by omega)] at h; exact h
