-- The reference sets its origin. (own work)
theorem c62_a0 {M : zM} {l v : Nat → Int} {W : Nat} {x1 : Int} {cl : Bool} {Q : zQ} (hT : mW M l v W) (hw : wds l v W) (h2 : 2 ≤ W)
    (h : ∀ cl : Bool, zT 62 (45, [some (zR 18 0), some (zI x1), some (zI 1)], [], z_w M 22 0 0 (ogn l v W (M.1 24 0 0) (M.1 22 0 0) 0), cl) Q) : zT 62 (45, [some (zR 18 0), some (zI x1), some (zI 0)], [], M, cl) Q := by
  have hr := z_chr_r 0
  have hn := nOf_r l (z_chr 0) W
  have h40 := hw.1
  refine g62_45a0 (c58 (by omega) ⟨_, rfl, fun _ => c55 hT hw (by omega) h2 ⟨_, rfl, fun _ => ⟨by omega, fun e => c58 (by omega) ⟨_, rfl, fun _ => c56 hT hw (by omega) h2 ⟨_, rfl, fun _ => ?_⟩⟩, fun e => ?_⟩⟩⟩)
  · have h1 := h false
    rw [ogn, if_neg e] at h1; exact h1
  · have h1 := h false
    rw [ogn, if_pos e] at h1; exact h1
theorem c62_a1 {M : zM} {l v : Nat → Int} {W : Nat} {x1 : Int} {cl : Bool} {Q : zQ} (hT : mW M l v W) (hw : wds l v W) (h2 : 2 ≤ W)
    (h : ∀ cl : Bool, zT 62 (45, [some (zR 18 0), some (zI x1), some (zI 2)], [], z_w M 22 0 1 (ogn l v W (M.1 24 0 1) (M.1 22 0 1) 1), cl) Q) : zT 62 (45, [some (zR 18 0), some (zI x1), some (zI 1)], [], M, cl) Q := by
  have hr := z_chr_r 1
  have hn := nOf_r l (z_chr 1) W
  have h40 := hw.1
  refine g62_45a1 (c58 (by omega) ⟨_, rfl, fun _ => c55 hT hw (by omega) h2 ⟨_, rfl, fun _ => ⟨by omega, fun e => c58 (by omega) ⟨_, rfl, fun _ => c56 hT hw (by omega) h2 ⟨_, rfl, fun _ => ?_⟩⟩, fun e => ?_⟩⟩⟩)
  · have h1 := h false
    rw [ogn, if_neg e] at h1; exact h1
  · have h1 := h false
    rw [ogn, if_pos e] at h1; exact h1
theorem c62_a2 {M : zM} {l v : Nat → Int} {W : Nat} {x1 : Int} {cl : Bool} {Q : zQ} (hT : mW M l v W) (hw : wds l v W) (h2 : 2 ≤ W)
    (h : ∀ cl : Bool, zT 62 (45, [some (zR 18 0), some (zI x1), some (zI 3)], [], z_w M 22 0 2 (ogn l v W (M.1 24 0 2) (M.1 22 0 2) 2), cl) Q) : zT 62 (45, [some (zR 18 0), some (zI x1), some (zI 2)], [], M, cl) Q := by
  have hr := z_chr_r 2
  have hn := nOf_r l (z_chr 2) W
  have h40 := hw.1
  refine g62_45a2 (c58 (by omega) ⟨_, rfl, fun _ => c55 hT hw (by omega) h2 ⟨_, rfl, fun _ => ⟨by omega, fun e => c58 (by omega) ⟨_, rfl, fun _ => c56 hT hw (by omega) h2 ⟨_, rfl, fun _ => ?_⟩⟩, fun e => ?_⟩⟩⟩)
  · have h1 := h false
    rw [ogn, if_neg e] at h1; exact h1
  · have h1 := h false
    rw [ogn, if_pos e] at h1; exact h1
