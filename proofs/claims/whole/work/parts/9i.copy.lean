-- copyPlace. (own work)
theorem c40a {M : zM} {R : Option zV → zM → Prop} (h : R none (z_cp M 14 0 15 0)) : zF 40 [zR 14 0, zR 15 0] M R := g40_0_14_15 ⟨rfl, h⟩
theorem c40b {M : zM} {R : Option zV → zM → Prop} (h : R none (z_cp M 17 0 15 0)) : zF 40 [zR 17 0, zR 15 0] M R := g40_0_17_15 ⟨rfl, h⟩
theorem z_cp_get (M : zM) (k j k1 j1 a b c : Nat) : (z_cp M k j k1 j1).1 a b c = if a = k1 ∧ b = j1 ∧ c < 3 then M.1 k j c else M.1 a b c := by
  unfold z_cp
  rw [z_w_get, z_w_get, z_w_get]
  by_cases h2 : a = k1 ∧ b = j1 ∧ c = 2
  · rw [if_pos h2, if_pos ⟨h2.1, h2.2.1, by omega⟩, h2.2.2]
  · rw [if_neg h2]
    by_cases h1 : a = k1 ∧ b = j1 ∧ c = 1
    · rw [if_pos h1, if_pos ⟨h1.1, h1.2.1, by omega⟩, h1.2.2]
    · rw [if_neg h1]
      by_cases h0 : a = k1 ∧ b = j1 ∧ c = 0
      · rw [if_pos h0, if_pos ⟨h0.1, h0.2.1, by omega⟩, h0.2.2]
      · rw [if_neg h0, if_neg (by omega)]
theorem z_cp_l (M : zM) (k j k1 j1 : Nat) : (z_cp M k j k1 j1).2 = M.2 := rfl
