-- The memory where the law's loop begins (own work)
def kM0 (a : Int) (L : Nat) (xs : Nat → Int32) : zM := (fun k _ i => match k with
  | 0 => (match i with
    | 9 => 1
    | 13 => 100
    | 15 => -1
    | _ => 0)
  | 8 => (match i with
    | 1 => a
    | _ => 0)
  | 18 => (match i with
    | 0 => a
    | 10 => 100
    | 28 => -1
    | _ => 0)
  | 32 => (xs i).toInt
  | _ => 0, fun _ _ _ => 0, L)
theorem k_zr (x : Int32) : zr x.toInt := by
  have h1 := Int32.minValue_le_toInt x
  have h2 := Int32.toInt_le x
  constructor
  · have e : Int32.minValue.toInt = -2147483648 := by decide
    omega
  · have e : Int32.maxValue.toInt = 2147483647 := by decide
    omega
theorem kM0_zr (a : Int) (L : Nat) (xs : Nat → Int32) : ∀ i, zr ((kM0 a L xs).1 32 0 i) := fun i => k_zr (xs i)
theorem kUs_b (k : Int32) : ∃ a : Int, 1 ≤ a ∧ a ≤ 1000 ∧ kUs k = zi a := by
  unfold kUs
  by_cases h1 : k < 1
  · rw [if_pos h1]; exact ⟨100, by decide, by decide, rfl⟩
  · rw [if_neg h1]
    by_cases h2 : 1000 < k
    · rw [if_pos h2]; exact ⟨100, by decide, by decide, rfl⟩
    · rw [if_neg h2]
      refine ⟨k.toInt, ?_, ?_, (Int32.ofInt_toInt k).symm⟩
      · have := Int32.not_lt.mp h1
        have h3 := Int32.le_iff_toInt_le.mp this
        exact h3
      · have := Int32.not_lt.mp h2
        have h3 := Int32.le_iff_toInt_le.mp this
        exact h3
theorem kM0_iI {a : Int} (h1 : 1 ≤ a) (h2 : a ≤ 1000) (L : Nat) (xs : Nat → Int32) : iI (kM0 a L xs) 0 := by
  refine ⟨a, (0, (fun _ _ => 0, fun _ => 0, fun _ => 0), (0, 0, 0, 0, 0), (fun _ => 0, fun _ => 0), (0, 0, -1), (0, fun _ => 0), 0), (0, 100, 0, fun _ => 0, 0), fun _ => 0, ?_, ?_, ?_, ?_, ?_, ?_, ?_, ?_, ?_, ?_⟩
  · refine ⟨⟨h1, h2⟩, by decide, fun i hi => absurd hi (Nat.not_lt_zero i), ⟨Or.inl rfl, fun h => absurd h (by decide)⟩, fun q hq => ⟨fun i hi => ?_, ?_⟩, Or.inl rfl, Or.inl rfl, ⟨by decide, by decide⟩, fun h => absurd h (by decide), ⟨fun s hs q hq => ⟨by show (-99999 : Int) ≤ 0; decide, by show (0 : Int) ≤ 99999; decide⟩, ⟨by decide, by decide, by decide⟩, ⟨by decide, by decide, Or.inl rfl⟩⟩, ⟨by decide, by decide, by decide⟩⟩
    · obtain rfl : i = 0 := by omega
      have e : bsA ((fun _ _ => 0 : Nat → Nat → Int) 0) ((fun _ => 0 : Nat → Int) 0) (fun _ => 0) 0 0 q = 0 := rfl
      rw [e]
      simp only [sD]
      omega
    · rfl
  · exact ⟨⟨by decide, by decide⟩, ⟨by decide, by decide⟩, Or.inl rfl, fun q hq => ⟨by show (-200000 : Int) ≤ 0; decide, by show (0 : Int) ≤ 200000; decide⟩, Or.inl rfl⟩
  · refine ⟨⟨⟨by show (0 : Int) ≤ 0; decide, by show (0 : Int) ≤ 7; decide⟩, rfl, by decide, fun i hi => absurd hi (Nat.not_lt_zero i)⟩, rfl, ⟨rfl, fun _ i i1 i2 => absurd i2 (Nat.not_lt_zero i), fun h => absurd h (by decide)⟩, fun q hq => ⟨rfl, rfl⟩, rfl, rfl, rfl, rfl, fun k hk => rfl, rfl⟩
  · exact ⟨⟨rfl, by decide, fun j hj => ⟨by show (-500 : Int) ≤ 0; decide, by show (0 : Int) ≤ 500; decide⟩, fun i hi => absurd hi (Nat.not_lt_zero i)⟩, rfl, ⟨rfl, fun h => absurd h (by decide)⟩, fun q hq => ⟨rfl, rfl⟩, rfl, rfl, rfl, rfl, fun k hk => rfl, rfl⟩
  · exact ⟨rfl, rfl, rfl, fun q hq => rfl, rfl⟩
  · exact ⟨rfl, rfl, rfl, fun q hq => rfl, rfl⟩
  · exact ⟨by decide, by decide, fun i hi => by simp [aT] at hi; omega⟩
  · intro i hi; rfl
  · intro i hi; rfl
  · intro _; rfl
-- the world that the walk leaves is the machine's memory
def kAd (b ks vs q0 q13 q27 : Nat) (u22 u9 : Nat → Nat) : Nat → Nat → Nat := fun k j => match k with
  | 0 => q0
  | 1 => u9 0
  | 2 => u9 1
  | 3 => u9 2
  | 4 => u9 3
  | 5 => u9 4
  | 6 => u9 5
  | 7 => u9 6
  | 8 => u9 13
  | 9 => u9 14
  | 10 => u9 (15 + 2 * j)
  | 11 => u9 (16 + 2 * j)
  | 12 => u9 7
  | 13 => u9 8
  | 14 => u9 9
  | 15 => u9 10
  | 16 => u9 11
  | 17 => u9 12
  | 18 => q13
  | 31 => q27
  | 32 => b
  | 33 => ks
  | 34 => vs
  | n => u22 (n - 19)
abbrev kPm : List Nat := [0, 1, 2, 3, 4, 5, 6, 7, 14, 15, 16, 18, 20, 22, 24, 26, 28, 30, 17, 19, 21, 23, 25, 27, 29, 31, 8, 9, 10, 11, 12, 13, 32, 33, 34, 35, 36, 37, 38, 39, 40, 41, 42, 43, 44, 45]
def kFb (u9 : Nat → Nat) : Nat → Option Nat := va_up (va_up (va_up (va_up (va_up (va_up (va_up (va_up (fun _ => none) 0 (some (u9 15))) 1 (some (u9 17))) 2 (some (u9 19))) 3 (some (u9 21))) 4 (some (u9 23))) 5 (some (u9 25))) 6 (some (u9 27))) 7 (some (u9 29))
def kXe (cs : Nat → ClassId) (ad : Nat → Nat → Nat) (σ : xm_M) (f : Nat → Option Nat) (q : Nat × Nat) : va_E := bif Nat.beq q.1 9 then .inl (cs 4, 8, .inr (.inr (.inr (.inr f)))) else xe cs ad σ q
theorem k_perm (cs : Nat → ClassId) (a : Int) (L : Nat) (xs : Nat → Int32) (b ks vs q0 q13 q27 : Nat) (u22 u9 : Nat → Nat) : kPm.map (fun i => (kWd cs (zi a) q0 q13 q27 u22 u9)[i]?) = (xprs.map fun q => (kAd b ks vs q0 q13 q27 u22 u9 q.1 q.2, kXe cs (kAd b ks vs q0 q13 q27 u22 u9) (z_m (kM0 a L xs)) (kFb u9) q)).map some := by
  rfl
