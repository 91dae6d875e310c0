-- Small methods of numbers and blocks. (own work)
def imax (a b : Int) : Int := if a < b then b else a
def imin (a b : Int) : Int := if b < a then b else a
theorem imax_r (a b : Int) : (a < b ∧ imax a b = b) ∨ (b ≤ a ∧ imax a b = a) := by unfold imax; split <;> omega
theorem imin_r (a b : Int) : (b < a ∧ imin a b = b) ∨ (a ≤ b ∧ imin a b = a) := by unfold imin; split <;> omega
theorem c32 {M : zM} {a b : Int} {R : Option zV → zM → Prop} (ha : zr a) (hb : zr b) (h : R (some (zI (imax a b))) M) : zF 32 [zI a, zI b] M R := by
  refine g32_0 ⟨⟨ha, hb⟩, fun c => ⟨rfl, ?_⟩, fun c => ⟨rfl, ?_⟩⟩
  · rw [imax, if_pos c] at h; exact h
  · rw [imax, if_neg c] at h; exact h
theorem c35 {M : zM} {a b : Int} {R : Option zV → zM → Prop} (ha : zr a) (hb : zr b) (h : R (some (zI (imin a b))) M) : zF 35 [zI a, zI b] M R := by
  refine g35_0 ⟨⟨ha, hb⟩, fun c => ⟨rfl, ?_⟩, fun c => ⟨rfl, ?_⟩⟩
  · rw [imin, if_pos c] at h; exact h
  · rw [imin, if_neg c] at h; exact h
theorem c29 {M : zM} {R : Option zV → zM → Prop} (hc : zr (M.1 8 0 3)) (h : R (some (zI (if M.1 8 0 3 < 8 then 0 else 1))) M) : zF 29 [zR 8 0] M R := by
  refine g29_0 ⟨by omega, fun c => ⟨rfl, ?_⟩, fun c => ⟨rfl, ?_⟩⟩
  · rw [if_pos c] at h; exact h
  · rw [if_neg c] at h; exact h
theorem c30 {M : zM} {a b : Int} {R : Option zV → zM → Prop} (ha : 0 ≤ a ∧ a ≤ 2147483647) (hb : 0 < b ∧ b ≤ 2147483647) (h : R (some (zI (a % b))) M) : zF 30 [zI a, zI b] M R := by
  have h1 : a.toNat < 2 ^ 31 := by omega
  have h2 : b.toNat < 2 ^ 31 := by omega
  have h3 := Nat.xor_lt_two_pow h1 h2
  refine g30_0 ⟨by omega, by omega, ?_, fun _ => ⟨rfl, h⟩, fun c => absurd (Int.natCast_nonneg _) c⟩
  simp only [Int.ofNat_eq_natCast]; omega
-- which block stands at place i
def bAt (M : zM) (i : Int) : Nat := ((M.1 8 0 2 + i) % 8).toNat
theorem c31 {M : zM} {i : Int} {R : Option zV → zM → Prop} (hf : 0 ≤ M.1 8 0 2 ∧ M.1 8 0 2 ≤ 7) (hi : 0 ≤ i ∧ i ≤ 1000) (h : R (some (zR 10 (bAt M i))) M) : zF 31 [zR 8 0, zI i] M R :=
  g31_0 (c30 (by omega) (by omega) ⟨_, rfl, fun _ => ⟨by omega, rfl, h⟩⟩)
theorem c34 {M : zM} {j k : Nat} {R : Option zV → zM → Prop} (hj : ∀ a, a < 3 → zr (M.1 11 j a)) (hk : ∀ a, a < 3 → zr (M.1 11 k a))
    (h : R (some (zJ (M.1 11 j 0 * M.1 11 k 0 + M.1 11 j 1 * M.1 11 k 1 + M.1 11 j 2 * M.1 11 k 2))) M) : zF 34 [zR 10 j, zR 10 k] M R := by
  refine g34_0 ⟨hj 0 (by omega), hk 0 (by omega), hj 1 (by omega), hk 1 (by omega), hj 2 (by omega), hk 2 (by omega), rfl, ?_⟩
  rw [Int.zero_add]; exact h
theorem c37 {M : zM} {j : Nat} {R : Option zV → zM → Prop} (h : R (some (zI (2 * M.1 8 0 1 * M.1 10 j 1))) M) : zF 37 [zR 8 0, zR 10 j] M R := g37_0 ⟨rfl, h⟩
theorem c42 {M : zM} {j : Nat} {t : Int} {R : Option zV → zM → Prop} (h : R none (z_w (z_w (z_w (z_w (z_w M 11 j 0 0) 11 j 1 0) 11 j 2 0) 10 j 1 t) 10 j 2 0)) : zF 42 [zR 10 j, zI t] M R := g42_0 ⟨rfl, h⟩
theorem c68 {M : zM} {j : Nat} {R : Option zV → zM → Prop} (hz : zr (M.1 10 j 2)) (h : R (some (zI (if M.1 10 j 2 = 0 then 1 else 0))) M) : zF 68 [zR 10 j] M R := by
  refine g68_0 ⟨hz, fun c => ⟨rfl, ?_⟩, fun c => ⟨rfl, ?_⟩⟩
  · rw [if_neg c] at h; exact h
  · rw [if_pos c] at h; exact h
-- roots
theorem sq_mono {a b : Int} (ha : 0 ≤ a) (h : a ≤ b) : a * a ≤ b * b := Int.mul_le_mul h h ha (by omega)
theorem sq_uniq {r q s : Int} (hr : 0 ≤ r) (hq : 0 ≤ q) (h1 : r * r ≤ s) (h2 : s < (r + 1) * (r + 1)) (h3 : q * q ≤ s) (h4 : s < (q + 1) * (q + 1)) : r = q := by
  have a : ¬ r < q := fun h => by
    have := sq_mono (show 0 ≤ r + 1 by omega) (show r + 1 ≤ q by omega); omega
  have b : ¬ q < r := fun h => by
    have := sq_mono (show 0 ≤ q + 1 by omega) (show q + 1 ≤ r by omega); omega
  omega
def bt : Nat → Int
  | 0 => 0
  | k + 1 => 2 ^ k
theorem bt_2 : ∀ k : Nat, bt (k + 1) / 2 = bt k
  | 0 => by decide
  | k + 1 => by
    show (2 : Int) ^ (k + 1) / 2 = 2 ^ k
    rw [Int.pow_succ]; omega
theorem c69 {M : zM} {s : Int} {R : Option zV → zM → Prop} (hs : 0 ≤ s ∧ s ≤ 1000000) (h : ∀ r, 0 ≤ r → r ≤ 1000 → r * r ≤ s → s < (r + 1) * (r + 1) → R (some (zI r)) M) : zF 69 [zI s] M R := by
  refine g69_0 ?_
  have key : ∀ (k : Nat) (x : Int) (u : Option zV) (cl : Bool), k ≤ 10 → 0 ≤ x → x + 2 ^ k ≤ 1024 → x * x ≤ s → s < (x + 2 ^ k) * (x + 2 ^ k) → zT 69 (6, [some (zI s), some (zI x), some (zI (bt k)), u], [], M, cl) (zq R) := by
    intro k
    induction k with
    | zero =>
      intro x u cl hk h0 hx h1 h2
      refine g69_6 ⟨by show zr 0; omega, fun _ => ⟨rfl, h x h0 ?_ h1 h2⟩, fun c => absurd (by simp [bt]) c⟩
      by_cases q : x ≤ 1000
      · exact q
      · have := sq_mono (show (0 : Int) ≤ 1001 by omega) (show 1001 ≤ x by omega); omega
    | succ k ih =>
      intro x u cl hk h0 hx h1 h2
      have e : bt (k + 1) = 2 ^ k := rfl
      have e2 : (2 : Int) ^ (k + 1) = 2 ^ k + 2 ^ k := by rw [Int.pow_succ]; omega
      have hp : (0 : Int) < 2 ^ k := Int.pow_pos (by decide)
      have hb := bt_2 k
      rw [e2] at hx h2
      rw [e] at hb ⊢
      have i1 := ih x (some (zI (x + 2 ^ k))) cl (by omega) h0
      have i2 := ih (x + 2 ^ k) (some (zI (x + 2 ^ k))) cl (by omega)
      rw [Int.add_assoc] at i2
      refine g69_6 ?_
      rw [hb]
      generalize (2 : Int) ^ k = p at *
      have hsq := sq_mono (show 0 ≤ x + p by omega) (show x + p ≤ 1024 by omega)
      have hsq0 := sq_mono (show (0 : Int) ≤ 0 by omega) (show 0 ≤ x + p by omega)
      refine ⟨by omega, fun c => by omega, fun _ => ⟨by omega, fun c => ⟨by omega, i1 (by omega) h1 c⟩, fun c => ⟨by omega, i2 (by omega) (by omega) (by omega) h2⟩⟩⟩
  exact key 10 0 none true (by omega) (by omega) (by decide) (by omega) (by
    have : ((0 : Int) + 2 ^ 10) * (0 + 2 ^ 10) = 1048576 := by decide
    omega)
theorem c91 {M : zM} {s : Int} {R : Option zV → zM → Prop} (hs : 0 ≤ s ∧ s ≤ 1000000) (h : ∀ r, 0 ≤ r → r ≤ 1000 → r * r ≤ s → s < (r + 1) * (r + 1) → R (some (zJ r)) M) : zF 91 [zJ s] M R := by
  refine g91_0 ?_
  have key : ∀ (f : Nat) (x : Int) (cl : Bool), 1000 - x ≤ f → 0 ≤ x → x ≤ 1000 → x * x ≤ s → zT 91 (2, [some (zJ s), none, some (zJ x), none], [], M, cl) (zq R) := by
    intro f
    induction f with
    | zero =>
      intro x cl hf h0 h1 h2
      have e : x = 1000 := by omega
      subst e
      exact g91_2 ⟨by omega, fun c => ⟨rfl, h 1000 (by omega) (by omega) h2 c⟩, fun c => by omega⟩
    | succ f ih =>
      intro x cl hf h0 h1 h2
      have hsq := sq_mono (show 0 ≤ x + 1 by omega) (show x + 1 ≤ 1001 by omega)
      have hsq0 := sq_mono (show (0 : Int) ≤ 0 by omega) (show 0 ≤ x + 1 by omega)
      refine g91_2 ⟨by omega, fun c => ⟨rfl, h x h0 h1 h2 c⟩, fun c => ih (x + 1) cl (by omega) (by omega) ?_ (by omega)⟩
      by_cases q : x + 1 ≤ 1000
      · exact q
      · have := sq_mono (show (0 : Int) ≤ 1001 by omega) (show 1001 ≤ x + 1 by omega); omega
  exact key 1000 0 true (by omega) (by omega) (by omega) (by omega)
