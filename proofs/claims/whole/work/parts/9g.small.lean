-- Small methods. (own work)
theorem c7 {M : zM} {R : Option zV → zM → Bool → Prop} {T : Nat → zM → Prop} (h1 : M.1 0 0 9 = 0 ∨ M.1 0 0 9 = 1) (h2 : M.1 0 0 10 = 0 ∨ M.1 0 0 10 = 1) (hr : M.1 0 0 9 = 1 → M.1 0 0 10 = 0 → R none M true) (ht : M.1 0 0 9 = 0 ∨ M.1 0 0 10 = 1 → T 0 M) : zX 7 [zR 0 0] M R T :=
  g7_0 ⟨by omega, fun c => ⟨rfl, rfl, ht (by omega)⟩, fun c => ⟨by omega, fun c2 => ⟨rfl, hr (by omega) c2⟩, fun c2 => ⟨rfl, rfl, ht (by omega)⟩⟩⟩
theorem c135 {M : zM} {R : Option zV → zM → Bool → Prop} {T : Nat → zM → Prop} (h1 : M.1 0 0 9 = 0 ∨ M.1 0 0 9 = 1) (h2 : M.1 0 0 10 = 0 ∨ M.1 0 0 10 = 1) (hr : M.1 0 0 9 = 1 → M.1 0 0 10 = 1 → R none M true) (ht : M.1 0 0 9 = 0 ∨ M.1 0 0 10 = 0 → T 0 M) : zX 135 [zR 0 0] M R T :=
  g135_0 ⟨by omega, fun c => ⟨rfl, rfl, ht (by omega)⟩, fun c => ⟨by omega, fun c2 => ⟨rfl, hr (by omega) (by omega)⟩, fun c2 => ⟨rfl, rfl, ht (by omega)⟩⟩⟩
theorem c104 {M : zM} {a : Int} {R : Option zV → zM → Bool → Prop} {T : Nat → zM → Prop} (ha : zr a) (hr : 0 ≤ a → a < 3 → R none M true) (ht : a < 0 ∨ 3 ≤ a → T 1 M) : zX 104 [zI a] M R T :=
  g104_0 ⟨by omega, fun c => ⟨rfl, rfl, ht (by omega)⟩, fun c => ⟨by omega, fun c2 => ⟨rfl, hr (by omega) c2⟩, fun c2 => ⟨rfl, rfl, ht (by omega)⟩⟩⟩
theorem c64 {M : zM} {R : Option zV → zM → Prop} (h : R (some (zI (M.1 18 0 1))) M) : zF 64 [zR 18 0] M R := g64_0 ⟨rfl, h⟩
theorem c65 {M : zM} {R : Option zV → zM → Prop} (h : R (some (zI (M.1 0 0 14))) M) : zF 65 [zR 0 0] M R := g65_0 ⟨rfl, h⟩
theorem c66 {M : zM} {R : Option zV → zM → Prop} (h : R (some (zI (M.1 18 0 8))) (z_w M 18 0 1 0)) : zF 66 [zR 18 0] M R := g66_0 ⟨rfl, h⟩
theorem c111 {M : zM} {R : Option zV → zM → Prop} (h : R (some (zI (M.1 8 0 3))) M) : zF 111 [zR 0 0] M R := g111_0 ⟨rfl, h⟩
theorem c112 {M : zM} {R : Option zV → zM → Prop} (h : R (some (zI (M.1 18 0 15))) (z_w M 18 0 1 0)) : zF 112 [zR 18 0] M R := g112_0 ⟨rfl, h⟩
theorem c117 {M : zM} {R : Option zV → zM → Prop} (hb : M.1 8 0 4 = 0 ∨ M.1 8 0 4 = 1) (h : R (some (zI (M.1 8 0 4))) M) : zF 117 [zR 0 0] M R := g117_0 ⟨hb, rfl, h⟩
theorem c118 {M : zM} {R : Option zV → zM → Prop} (hb : M.1 18 0 19 = 0 ∨ M.1 18 0 19 = 1) (h : R (some (zI (M.1 18 0 19))) (z_w M 18 0 1 0)) : zF 118 [zR 18 0] M R := g118_0 ⟨hb, rfl, h⟩
theorem c80 {M : zM} {R : Option zV → zM → Prop} (h : R (some (zI (M.1 8 0 3))) (z_w (z_w M 8 0 3 0) 8 0 4 0)) : zF 80 [zR 8 0] M R := g80_0 ⟨rfl, h⟩
theorem c50 {M : zM} {R : Option zV → zM → Prop} (h1 : M.1 18 0 26 = 0 ∨ M.1 18 0 26 = 1) (h2 : M.1 18 0 27 = 0 ∨ M.1 18 0 27 = 1) (hr : M.1 18 0 26 = 0 → M.1 18 0 27 = 0 → R (some (zI 1)) (z_w M 18 0 1 0)) (hn : M.1 18 0 26 = 1 ∨ M.1 18 0 27 = 1 → R (some (zI 0)) (z_w M 18 0 1 1)) : zF 50 [zR 18 0] M R :=
  g50_0 ⟨by omega, fun c => ⟨rfl, hn (by omega)⟩, fun c => ⟨by omega, fun c2 => ⟨rfl, hr c c2⟩, fun c2 => ⟨rfl, hn (by omega)⟩⟩⟩
theorem c73 {M : zM} {R : Option zV → zM → Prop} (hz : 0 ≤ M.1 8 0 6 ∧ M.1 8 0 6 ≤ 2147483647) (h : R (some (zI (if 0 < M.1 8 0 6 - 1 then 0 else 1))) (z_w M 8 0 6 (M.1 8 0 6 - 1))) : zF 73 [zR 8 0] M R := by
  refine g73_0 ⟨by omega, fun c => ⟨rfl, ?_⟩, fun c => ⟨rfl, ?_⟩⟩
  · rw [if_pos c] at h; exact h
  · rw [if_neg c] at h; exact h
theorem c99 {M : zM} {m : Int} {R : Option zV → zM → Prop} (hm : zr m) (hz : 0 ≤ M.1 8 0 6 ∧ M.1 8 0 6 ≤ 2147483647) (h : R (some (zI (imax 0 (imin m (M.1 8 0 6 - 1))))) (z_w M 8 0 6 (M.1 8 0 6 - imax 0 (imin m (M.1 8 0 6 - 1))))) : zF 99 [zR 8 0, zI m] M R := by
  have h1 := imin_r m (M.1 8 0 6 - 1)
  exact g99_0 (c35 hm (by omega) ⟨_, rfl, fun _ => c32 (by omega) (by omega) ⟨_, rfl, fun _ => ⟨rfl, h⟩⟩⟩)
