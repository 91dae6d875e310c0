-- A leading step of the class. (own work)
def orB (x d : Int) (q : Nat) : Int := if d = 0 then x else if 0 < d then Int.ofNat (x.toNat ||| 2 ^ q) else Int.ofNat (x.toNat ||| (9 * 2 ^ q))
theorem orB_r {x d : Int} {q : Nat} (hx : z_p x) (hq : q < 3) : z_p (orB x d q) := by
  have h1 : x.toNat < 2 ^ 31 := by omega
  have h2 : 2 ^ q < 2 ^ 31 ∧ 9 * 2 ^ q < 2 ^ 31 := by
    rcases (show q = 0 ∨ q = 1 ∨ q = 2 by omega) with e | e | e <;> subst e <;> decide
  have h3 := Nat.or_lt_two_pow h1 h2.1
  have h4 := Nat.or_lt_two_pow h1 h2.2
  unfold orB
  split
  · exact hx
  · split
    · simp only [Int.ofNat_eq_natCast]; omega
    · simp only [Int.ofNat_eq_natCast]; omega
theorem or_ge (x y : Nat) : x ≤ x ||| y ∧ y ≤ x ||| y := ⟨Nat.left_le_or, Nat.right_le_or⟩
theorem orB_nz {x d : Int} {q : Nat} (hx : 0 ≤ x) (h : 0 < x ∨ ¬ d = 0) : 0 < orB x d q := by
  have hp : 0 < 2 ^ q := Nat.pow_pos (by decide)
  unfold orB
  by_cases e : d = 0
  · rw [if_pos e]; omega
  · rw [if_neg e]
    by_cases e2 : 0 < d
    · rw [if_pos e2]
      have := (or_ge x.toNat (2 ^ q)).2
      simp only [Int.ofNat_eq_natCast]; omega
    · rw [if_neg e2]
      have := (or_ge x.toNat (9 * 2 ^ q)).2
      simp only [Int.ofNat_eq_natCast]; omega
def sDl (D0 : Nat → Int) (L0 md : Int) (q : Nat) : Int := sAf (D0 q) L0 (md + 1) - sAf (D0 q) L0 md
def sBt (D0 : Nat → Int) (L0 md : Int) : Int := orB (orB (orB 0 (sDl D0 L0 md 0) 0) (sDl D0 L0 md 1) 1) (sDl D0 L0 md 2) 2
-- how far an axis is at most
theorem sAf_b {d l m : Int} (hd : -l ≤ d ∧ d ≤ l) (hl : 1 ≤ l) (hm : 0 ≤ m ∧ m ≤ l) : (0 ≤ d → 0 ≤ sAf d l m ∧ sAf d l m ≤ d) ∧ (d < 0 → d ≤ sAf d l m ∧ sAf d l m ≤ 0) := by
  have hi := iab_r d
  have h1 : 0 ≤ iab d * m := Int.mul_nonneg (by omega) hm.1
  have h2 : iab d * m ≤ iab d * l := Int.mul_le_mul_of_nonneg_left hm.2 (by omega)
  have e1 : 2 * iab d * m = 2 * (iab d * m) := Int.mul_assoc _ _ _
  have q1 : 0 ≤ (2 * iab d * m + l) / (2 * l) := Int.ediv_nonneg (by omega) (by omega)
  have q2 : (2 * iab d * m + l) / (2 * l) < iab d + 1 := by
    apply Int.ediv_lt_of_lt_mul (by omega)
    have e2 : (iab d + 1) * (2 * l) = 2 * (iab d * l) + 2 * l := by grind
    omega
  unfold sAf
  rw [if_pos (by omega)]
  constructor
  · intro h
    rw [if_pos h]; omega
  · intro h
    rw [if_neg (by omega)]; omega
theorem sAf_0 {d l : Int} (hl : 1 ≤ l) : sAf d l 0 = 0 := by
  unfold sAf
  rw [if_pos (by omega), Int.mul_zero, Int.zero_add, Int.ediv_eq_zero_of_lt (by omega) (by omega)]
  split <;> rfl
theorem sAf_l {d l : Int} (hl : 1 ≤ l) : sAf d l l = d := by
  have hi := iab_r d
  have e : (2 * iab d * l + l) / (2 * l) = iab d := by
    rw [show 2 * iab d * l + l = l + iab d * (2 * l) by grind, Int.add_mul_ediv_right _ _ (by omega), Int.ediv_eq_zero_of_lt (by omega) (by omega), Int.zero_add]
  unfold sAf
  rw [if_pos (by omega), e]
  split <;> omega
-- the leading axis steps with every leading step
theorem sAf_lead {d l m : Int} (hl : 1 ≤ l) (hd : iab d = l) : sAf d l m = if 0 ≤ d then m else -m := by
  have e : (2 * iab d * m + l) / (2 * l) = m := by
    rw [hd, show 2 * l * m + l = l + m * (2 * l) by grind, Int.add_mul_ediv_right _ _ (by omega), Int.ediv_eq_zero_of_lt (by omega) (by omega), Int.zero_add]
  unfold sAf
  rw [if_pos (by omega), e]
theorem sDl_lead {D0 : Nat → Int} {l m : Int} {q : Nat} (hl : 1 ≤ l) (hd : iab (D0 q) = l) : ¬ sDl D0 l m q = 0 := by
  unfold sDl
  rw [sAf_lead hl hd, sAf_lead hl hd]
  split <;> omega
theorem sBt_r (D0 : Nat → Int) (L0 md : Int) : z_p (sBt D0 L0 md) := orB_r (orB_r (orB_r (by decide) (by omega)) (by omega)) (by omega)
theorem sBt_nz {D0 : Nat → Int} {L0 md : Int} (hl : 1 ≤ L0) (h : L0 = len3 D0) : 0 < sBt D0 L0 md := by
  have r0 : z_p (orB 0 (sDl D0 L0 md 0) 0) := orB_r (by decide) (by omega)
  have r1 : z_p (orB (orB 0 (sDl D0 L0 md 0) 0) (sDl D0 L0 md 1) 1) := orB_r r0 (by omega)
  have i0 := iab_r (D0 0); have i1 := iab_r (D0 1); have i2 := iab_r (D0 2)
  have m0 := imax_r 0 (iab (D0 0)); have m1 := imax_r (len1 D0) (iab (D0 1)); have m2 := imax_r (len2 D0) (iab (D0 2))
  have e1 : len1 D0 = imax 0 (iab (D0 0)) := rfl
  have e2 : len2 D0 = imax (len1 D0) (iab (D0 1)) := rfl
  have e3 : len3 D0 = imax (len2 D0) (iab (D0 2)) := rfl
  unfold sBt
  by_cases c2 : iab (D0 2) = L0
  · exact orB_nz r1.1 (Or.inr (sDl_lead hl c2))
  · by_cases c1 : iab (D0 1) = L0
    · exact orB_nz r1.1 (Or.inl (orB_nz r0.1 (Or.inr (sDl_lead hl c1))))
    · have c0 : iab (D0 0) = L0 := by omega
      exact orB_nz r1.1 (Or.inl (orB_nz r0.1 (Or.inl (orB_nz (by decide) (Or.inr (sDl_lead hl c0))))))
theorem c76_a0 {M : zM} {j : Nat} {x2 x3 : Int} {u5 : Option zV} {cl : Bool} {Q : zQ} (h11 : -500 ≤ M.1 11 j 0 ∧ M.1 11 j 0 ≤ 500) (hl : 1 ≤ M.1 10 j 1 ∧ M.1 10 j 1 ≤ 500) (hb : -M.1 10 j 1 ≤ M.1 11 j 0 ∧ M.1 11 j 0 ≤ M.1 10 j 1) (hm : 0 ≤ x2 ∧ x2 + 1 ≤ M.1 10 j 1) (hx : z_p x3)
    (h : ∀ (u : Option zV) (cl : Bool), zT 76 (22, [some (zR 0 0), some (zR 10 j), some (zI x2), some (zI (orB x3 (sDl (M.1 11 j) (M.1 10 j 1) x2 0) 0)), some (zI 1), u], [], z_w M 14 0 0 (M.1 14 0 0 + sDl (M.1 11 j) (M.1 10 j 1) x2 0), cl) Q) : zT 76 (22, [some (zR 0 0), some (zR 10 j), some (zI x2), some (zI x3), some (zI 0), u5], [], M, cl) Q := by
  have b1 := sAf_b hb hl.1 (m := x2 + 1) (by omega)
  have b2 := sAf_b hb hl.1 (m := x2) (by omega)
  refine g76_22a0 (c74 (a := 0) (by omega) h11 (by omega) (by omega) ⟨_, rfl, fun _ => c74 (a := 0) (by omega) h11 (by omega) (by omega) ⟨_, rfl, fun _ => ?_⟩⟩)
  have ed : sAf (M.1 11 j 0) (M.1 10 j 1) (x2 + 1) - sAf (M.1 11 j 0) (M.1 10 j 1) x2 = sDl (M.1 11 j) (M.1 10 j 1) x2 0 := rfl
  have hz : -1000 ≤ sAf (M.1 11 j 0) (M.1 10 j 1) (x2 + 1) - sAf (M.1 11 j 0) (M.1 10 j 1) x2 ∧ sAf (M.1 11 j 0) (M.1 10 j 1) (x2 + 1) - sAf (M.1 11 j 0) (M.1 10 j 1) x2 ≤ 1000 := by omega
  rw [ed] at hz ⊢
  generalize sDl (M.1 11 j) (M.1 10 j 1) x2 0 = d at *
  have hp1 : z_p (1 * 2 ^ 0) := by decide
  have hp8 : z_p (8 * 2 ^ 0) := by decide
  have hr := orB_r (d := 1) (q := 0) hx (by omega)
  refine ⟨by omega, fun c => ⟨by omega, fun c2 => ?_, fun c2 => by omega⟩, fun c => ⟨⟨hx, hp1⟩, by omega, fun c2 => ?_, fun c2 => ⟨⟨?_, hp8⟩, ?_⟩⟩⟩
  · have h1 := h (some (zI d)) false
    rw [orB, if_pos c] at h1; exact h1
  · have h1 := h (some (zI d)) false
    rw [orB, if_neg c, if_pos (by omega)] at h1; exact h1
  · rw [orB, if_neg (by decide), if_pos (by decide)] at hr; exact hr
  · have h1 := h (some (zI d)) false
    rw [orB, if_neg c, if_neg (by omega)] at h1
    rw [show Int.ofNat (Int.toNat (Int.ofNat (Int.toNat x3 ||| Int.toNat (1 * 2 ^ 0))) ||| Int.toNat (8 * 2 ^ 0)) = Int.ofNat (x3.toNat ||| (9 * 2 ^ 0)) by
      show Int.ofNat ((Int.toNat x3 ||| Int.toNat (1 * 2 ^ 0)) ||| Int.toNat (8 * 2 ^ 0)) = _
      rw [Nat.or_assoc]; rfl]
    exact h1
theorem c76_a1 {M : zM} {j : Nat} {x2 x3 : Int} {u5 : Option zV} {cl : Bool} {Q : zQ} (h11 : -500 ≤ M.1 11 j 1 ∧ M.1 11 j 1 ≤ 500) (hl : 1 ≤ M.1 10 j 1 ∧ M.1 10 j 1 ≤ 500) (hb : -M.1 10 j 1 ≤ M.1 11 j 1 ∧ M.1 11 j 1 ≤ M.1 10 j 1) (hm : 0 ≤ x2 ∧ x2 + 1 ≤ M.1 10 j 1) (hx : z_p x3)
    (h : ∀ (u : Option zV) (cl : Bool), zT 76 (22, [some (zR 0 0), some (zR 10 j), some (zI x2), some (zI (orB x3 (sDl (M.1 11 j) (M.1 10 j 1) x2 1) 1)), some (zI 2), u], [], z_w M 14 0 1 (M.1 14 0 1 + sDl (M.1 11 j) (M.1 10 j 1) x2 1), cl) Q) : zT 76 (22, [some (zR 0 0), some (zR 10 j), some (zI x2), some (zI x3), some (zI 1), u5], [], M, cl) Q := by
  have b1 := sAf_b hb hl.1 (m := x2 + 1) (by omega)
  have b2 := sAf_b hb hl.1 (m := x2) (by omega)
  refine g76_22a1 (c74 (a := 1) (by omega) h11 (by omega) (by omega) ⟨_, rfl, fun _ => c74 (a := 1) (by omega) h11 (by omega) (by omega) ⟨_, rfl, fun _ => ?_⟩⟩)
  have ed : sAf (M.1 11 j 1) (M.1 10 j 1) (x2 + 1) - sAf (M.1 11 j 1) (M.1 10 j 1) x2 = sDl (M.1 11 j) (M.1 10 j 1) x2 1 := rfl
  have hz : -1000 ≤ sAf (M.1 11 j 1) (M.1 10 j 1) (x2 + 1) - sAf (M.1 11 j 1) (M.1 10 j 1) x2 ∧ sAf (M.1 11 j 1) (M.1 10 j 1) (x2 + 1) - sAf (M.1 11 j 1) (M.1 10 j 1) x2 ≤ 1000 := by omega
  rw [ed] at hz ⊢
  generalize sDl (M.1 11 j) (M.1 10 j 1) x2 1 = d at *
  have hp1 : z_p (1 * 2 ^ 1) := by decide
  have hp8 : z_p (8 * 2 ^ 1) := by decide
  have hr := orB_r (d := 1) (q := 1) hx (by omega)
  refine ⟨by omega, fun c => ⟨by omega, fun c2 => ?_, fun c2 => by omega⟩, fun c => ⟨⟨hx, hp1⟩, by omega, fun c2 => ?_, fun c2 => ⟨⟨?_, hp8⟩, ?_⟩⟩⟩
  · have h1 := h (some (zI d)) false
    rw [orB, if_pos c] at h1; exact h1
  · have h1 := h (some (zI d)) false
    rw [orB, if_neg c, if_pos (by omega)] at h1; exact h1
  · rw [orB, if_neg (by decide), if_pos (by decide)] at hr; exact hr
  · have h1 := h (some (zI d)) false
    rw [orB, if_neg c, if_neg (by omega)] at h1
    rw [show Int.ofNat (Int.toNat (Int.ofNat (Int.toNat x3 ||| Int.toNat (1 * 2 ^ 1))) ||| Int.toNat (8 * 2 ^ 1)) = Int.ofNat (x3.toNat ||| (9 * 2 ^ 1)) by
      show Int.ofNat ((Int.toNat x3 ||| Int.toNat (1 * 2 ^ 1)) ||| Int.toNat (8 * 2 ^ 1)) = _
      rw [Nat.or_assoc]; rfl]
    exact h1
theorem c76_a2 {M : zM} {j : Nat} {x2 x3 : Int} {u5 : Option zV} {cl : Bool} {Q : zQ} (h11 : -500 ≤ M.1 11 j 2 ∧ M.1 11 j 2 ≤ 500) (hl : 1 ≤ M.1 10 j 1 ∧ M.1 10 j 1 ≤ 500) (hb : -M.1 10 j 1 ≤ M.1 11 j 2 ∧ M.1 11 j 2 ≤ M.1 10 j 1) (hm : 0 ≤ x2 ∧ x2 + 1 ≤ M.1 10 j 1) (hx : z_p x3)
    (h : ∀ (u : Option zV) (cl : Bool), zT 76 (22, [some (zR 0 0), some (zR 10 j), some (zI x2), some (zI (orB x3 (sDl (M.1 11 j) (M.1 10 j 1) x2 2) 2)), some (zI 3), u], [], z_w M 14 0 2 (M.1 14 0 2 + sDl (M.1 11 j) (M.1 10 j 1) x2 2), cl) Q) : zT 76 (22, [some (zR 0 0), some (zR 10 j), some (zI x2), some (zI x3), some (zI 2), u5], [], M, cl) Q := by
  have b1 := sAf_b hb hl.1 (m := x2 + 1) (by omega)
  have b2 := sAf_b hb hl.1 (m := x2) (by omega)
  refine g76_22a2 (c74 (a := 2) (by omega) h11 (by omega) (by omega) ⟨_, rfl, fun _ => c74 (a := 2) (by omega) h11 (by omega) (by omega) ⟨_, rfl, fun _ => ?_⟩⟩)
  have ed : sAf (M.1 11 j 2) (M.1 10 j 1) (x2 + 1) - sAf (M.1 11 j 2) (M.1 10 j 1) x2 = sDl (M.1 11 j) (M.1 10 j 1) x2 2 := rfl
  have hz : -1000 ≤ sAf (M.1 11 j 2) (M.1 10 j 1) (x2 + 1) - sAf (M.1 11 j 2) (M.1 10 j 1) x2 ∧ sAf (M.1 11 j 2) (M.1 10 j 1) (x2 + 1) - sAf (M.1 11 j 2) (M.1 10 j 1) x2 ≤ 1000 := by omega
  rw [ed] at hz ⊢
  generalize sDl (M.1 11 j) (M.1 10 j 1) x2 2 = d at *
  have hp1 : z_p (1 * 2 ^ 2) := by decide
  have hp8 : z_p (8 * 2 ^ 2) := by decide
  have hr := orB_r (d := 1) (q := 2) hx (by omega)
  refine ⟨by omega, fun c => ⟨by omega, fun c2 => ?_, fun c2 => by omega⟩, fun c => ⟨⟨hx, hp1⟩, by omega, fun c2 => ?_, fun c2 => ⟨⟨?_, hp8⟩, ?_⟩⟩⟩
  · have h1 := h (some (zI d)) false
    rw [orB, if_pos c] at h1; exact h1
  · have h1 := h (some (zI d)) false
    rw [orB, if_neg c, if_pos (by omega)] at h1; exact h1
  · rw [orB, if_neg (by decide), if_pos (by decide)] at hr; exact hr
  · have h1 := h (some (zI d)) false
    rw [orB, if_neg c, if_neg (by omega)] at h1
    rw [show Int.ofNat (Int.toNat (Int.ofNat (Int.toNat x3 ||| Int.toNat (1 * 2 ^ 2))) ||| Int.toNat (8 * 2 ^ 2)) = Int.ofNat (x3.toNat ||| (9 * 2 ^ 2)) by
      show Int.ofNat ((Int.toNat x3 ||| Int.toNat (1 * 2 ^ 2)) ||| Int.toNat (8 * 2 ^ 2)) = _
      rw [Nat.or_assoc]; rfl]
    exact h1
