-- Slots, read. (own work)
theorem c128 {M : zM} {s k : Nat} {R : Option zV → zM → Prop} (hs : s < 2) (hk : k < 4) (h : R (some (zI (M.1 13 0 (s * 4 + k)))) M) : zF 128 [zR 12 0, zI s, zI k] M R := by
  refine g128_0 ?_
  rw [show ((s : Int) * 4 + (k : Int)).toNat = s * 4 + k by omega]
  exact ⟨by omega, rfl, h⟩
def nwC (M : zM) : Nat := if M.1 13 0 7 ≤ M.1 13 0 3 then 0 else 1
def nwM (M : zM) : Nat := if M.1 30 0 3 ≤ M.1 30 0 7 then 1 else 0
theorem c129 {M : zM} {R : Option zV → zM → Prop} (h3 : zr (M.1 13 0 3)) (h7 : zr (M.1 13 0 7)) (h : R (some (zI (nwC M))) M) : zF 129 [zR 12 0] M R := by
  refine g129_0 (c128 (s := 1) (k := 3) (by omega) (by omega) ⟨_, rfl, fun _ => c128 (s := 0) (k := 3) (by omega) (by omega) ⟨_, rfl, fun _ => ⟨⟨h7, h3⟩, fun c => ⟨rfl, ?_⟩, fun c => ⟨rfl, ?_⟩⟩⟩⟩)
  · have e : nwC M = 0 := if_pos c
    rw [e] at h; exact h
  · have e : nwC M = 1 := if_neg c
    rw [e] at h; exact h
theorem c133 {M : zM} {R : Option zV → zM → Prop} (h3 : zr (M.1 30 0 3)) (h7 : zr (M.1 30 0 7)) (h : R (some (zI (nwM M))) M) : zF 133 [zR 18 0] M R := by
  refine g133_0 ⟨⟨h3, h7⟩, fun c => ⟨rfl, ?_⟩, fun c => ⟨rfl, ?_⟩⟩
  · have e : nwM M = 1 := if_pos c
    rw [e] at h; exact h
  · have e : nwM M = 0 := if_neg c
    rw [e] at h; exact h
theorem nwC_lt (M : zM) : nwC M < 2 := by unfold nwC; split <;> omega
theorem nwM_lt (M : zM) : nwM M < 2 := by unfold nwM; split <;> omega
theorem c130 {M : zM} {R : Option zV → zM → Prop} (h3 : zr (M.1 13 0 3)) (h7 : zr (M.1 13 0 7)) (h : R none (z_w M 12 0 1 (M.1 13 0 (nwC M * 4 + 3)))) : zF 130 [zR 12 0] M R :=
  g130_0 (c129 h3 h7 ⟨_, rfl, fun _ => c128 (k := 3) (nwC_lt M) (by omega) ⟨_, rfl, fun _ => ⟨rfl, h⟩⟩⟩)
