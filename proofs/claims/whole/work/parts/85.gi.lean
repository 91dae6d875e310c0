-- what each piece of the program asks (written by gen/g.py out of the program itself)
theorem g131_0 {M : zM} {Q : zQ} (h : (zr (M.1 0 0 9)) ∧ (((M.1 0 0 9) = 0 → zF 130 [zR 12 0] (z_w (z_w (z_w (z_w (z_w (z_w (z_w (z_w (z_w (z_w (z_w (z_w (z_w (z_w M 0 0 9 1) 0 0 10 1) 0 0 12 0) 0 0 13 100) 0 0 14 0) 14 0 0 0) 15 0 0 0) 16 0 0 0) 14 0 1 0) 15 0 1 0) 16 0 1 0) 14 0 2 0) 15 0 2 0) 16 0 2 0) (fun v M1 => v = none ∧ ∀ cl1 : Bool, Q (.inl none) M1 cl1 0)) ∧ (¬ ((M.1 0 0 9) = 0) → Q (.inr 0) M true 1))) : zT 131 (0, [some (zR 0 0), none], [], M, true) Q := by
  refine zT.it 2 (t := (4, [some (zR 0 0), none], [zI (M.1 0 0 9)], M, true)) rfl ?_
  refine zT.br (g := zr (M.1 0 0 9)) (p := (M.1 0 0 9) = 0) (t := (17, [some (zR 0 0), none], [], M, true)) (u := (7, [some (zR 0 0), none], [], M, true)) rfl h.1 (fun c => ?_) (fun c => ?_)
  · replace h := h.2.1 c
    refine zT.it 2 (t := (19, [some (zR 0 0), none], [zI 1, zR 0 0], M, true)) rfl ?_
    refine zT.chk (t := (22, [some (zR 0 0), none], [], (z_w M 0 0 9 1), false)) rfl (by first | decide | (dsimp only; decide)) ?_
    refine zT.it 2 (t := (24, [some (zR 0 0), none], [zI 1, zR 0 0], (z_w M 0 0 9 1), false)) rfl ?_
    refine zT.chk (t := (27, [some (zR 0 0), none], [], (z_w (z_w M 0 0 9 1) 0 0 10 1), false)) rfl (by first | decide | (dsimp only; decide)) ?_
    refine zT.it 2 (t := (29, [some (zR 0 0), none], [zI 0, zR 0 0], (z_w (z_w M 0 0 9 1) 0 0 10 1), false)) rfl ?_
    refine zT.chk (t := (32, [some (zR 0 0), none], [], (z_w (z_w (z_w M 0 0 9 1) 0 0 10 1) 0 0 12 0), false)) rfl (by first | decide | (dsimp only; decide)) ?_
    refine zT.it 10 (t := (47, [some (zR 0 0), some (zI 0)], [zI 3, zI 0], (z_w (z_w (z_w (z_w (z_w M 0 0 9 1) 0 0 10 1) 0 0 12 0) 0 0 13 100) 0 0 14 0), false)) rfl ?_
    refine zT.br (g := zr 0 ∧ zr 3) (p := 3 ≤ 0) (t := (77, [some (zR 0 0), some (zI 0)], [], (z_w (z_w (z_w (z_w (z_w M 0 0 9 1) 0 0 10 1) 0 0 12 0) 0 0 13 100) 0 0 14 0), false)) (u := (50, [some (zR 0 0), some (zI 0)], [], (z_w (z_w (z_w (z_w (z_w M 0 0 9 1) 0 0 10 1) 0 0 12 0) 0 0 13 100) 0 0 14 0), false)) rfl (by decide) (fun c => absurd c (by decide)) (fun c => ?_)
    refine zT.it 4 (t := (56, [some (zR 0 0), some (zI 0)], [zI 0, zI 0, zR 14 0], (z_w (z_w (z_w (z_w (z_w M 0 0 9 1) 0 0 10 1) 0 0 12 0) 0 0 13 100) 0 0 14 0), false)) rfl ?_
    refine zT.chk (t := (57, [some (zR 0 0), some (zI 0)], [], (z_w (z_w (z_w (z_w (z_w (z_w M 0 0 9 1) 0 0 10 1) 0 0 12 0) 0 0 13 100) 0 0 14 0) 14 0 0 0), false)) rfl (by first | decide | (dsimp only; decide)) ?_
    refine zT.it 4 (t := (63, [some (zR 0 0), some (zI 0)], [zI 0, zI 0, zR 15 0], (z_w (z_w (z_w (z_w (z_w (z_w M 0 0 9 1) 0 0 10 1) 0 0 12 0) 0 0 13 100) 0 0 14 0) 14 0 0 0), false)) rfl ?_
    refine zT.chk (t := (64, [some (zR 0 0), some (zI 0)], [], (z_w (z_w (z_w (z_w (z_w (z_w (z_w M 0 0 9 1) 0 0 10 1) 0 0 12 0) 0 0 13 100) 0 0 14 0) 14 0 0 0) 15 0 0 0), false)) rfl (by first | decide | (dsimp only; decide)) ?_
    refine zT.it 4 (t := (70, [some (zR 0 0), some (zI 0)], [zI 0, zI 0, zR 16 0], (z_w (z_w (z_w (z_w (z_w (z_w (z_w M 0 0 9 1) 0 0 10 1) 0 0 12 0) 0 0 13 100) 0 0 14 0) 14 0 0 0) 15 0 0 0), false)) rfl ?_
    refine zT.chk (t := (71, [some (zR 0 0), some (zI 0)], [], (z_w (z_w (z_w (z_w (z_w (z_w (z_w (z_w M 0 0 9 1) 0 0 10 1) 0 0 12 0) 0 0 13 100) 0 0 14 0) 14 0 0 0) 15 0 0 0) 16 0 0 0), false)) rfl (by first | decide | (dsimp only; decide)) ?_
    refine zT.it 4 (t := (47, [some (zR 0 0), some (zI 1)], [zI 3, zI 1], (z_w (z_w (z_w (z_w (z_w (z_w (z_w (z_w M 0 0 9 1) 0 0 10 1) 0 0 12 0) 0 0 13 100) 0 0 14 0) 14 0 0 0) 15 0 0 0) 16 0 0 0), false)) rfl ?_
    refine zT.br (g := zr 1 ∧ zr 3) (p := 3 ≤ 1) (t := (77, [some (zR 0 0), some (zI 1)], [], (z_w (z_w (z_w (z_w (z_w (z_w (z_w (z_w M 0 0 9 1) 0 0 10 1) 0 0 12 0) 0 0 13 100) 0 0 14 0) 14 0 0 0) 15 0 0 0) 16 0 0 0), false)) (u := (50, [some (zR 0 0), some (zI 1)], [], (z_w (z_w (z_w (z_w (z_w (z_w (z_w (z_w M 0 0 9 1) 0 0 10 1) 0 0 12 0) 0 0 13 100) 0 0 14 0) 14 0 0 0) 15 0 0 0) 16 0 0 0), false)) rfl (by decide) (fun c => absurd c (by decide)) (fun c => ?_)
    refine zT.it 4 (t := (56, [some (zR 0 0), some (zI 1)], [zI 0, zI 1, zR 14 0], (z_w (z_w (z_w (z_w (z_w (z_w (z_w (z_w M 0 0 9 1) 0 0 10 1) 0 0 12 0) 0 0 13 100) 0 0 14 0) 14 0 0 0) 15 0 0 0) 16 0 0 0), false)) rfl ?_
    refine zT.chk (t := (57, [some (zR 0 0), some (zI 1)], [], (z_w (z_w (z_w (z_w (z_w (z_w (z_w (z_w (z_w M 0 0 9 1) 0 0 10 1) 0 0 12 0) 0 0 13 100) 0 0 14 0) 14 0 0 0) 15 0 0 0) 16 0 0 0) 14 0 1 0), false)) rfl (by first | decide | (dsimp only; decide)) ?_
    refine zT.it 4 (t := (63, [some (zR 0 0), some (zI 1)], [zI 0, zI 1, zR 15 0], (z_w (z_w (z_w (z_w (z_w (z_w (z_w (z_w (z_w M 0 0 9 1) 0 0 10 1) 0 0 12 0) 0 0 13 100) 0 0 14 0) 14 0 0 0) 15 0 0 0) 16 0 0 0) 14 0 1 0), false)) rfl ?_
    refine zT.chk (t := (64, [some (zR 0 0), some (zI 1)], [], (z_w (z_w (z_w (z_w (z_w (z_w (z_w (z_w (z_w (z_w M 0 0 9 1) 0 0 10 1) 0 0 12 0) 0 0 13 100) 0 0 14 0) 14 0 0 0) 15 0 0 0) 16 0 0 0) 14 0 1 0) 15 0 1 0), false)) rfl (by first | decide | (dsimp only; decide)) ?_
    refine zT.it 4 (t := (70, [some (zR 0 0), some (zI 1)], [zI 0, zI 1, zR 16 0], (z_w (z_w (z_w (z_w (z_w (z_w (z_w (z_w (z_w (z_w M 0 0 9 1) 0 0 10 1) 0 0 12 0) 0 0 13 100) 0 0 14 0) 14 0 0 0) 15 0 0 0) 16 0 0 0) 14 0 1 0) 15 0 1 0), false)) rfl ?_
    refine zT.chk (t := (71, [some (zR 0 0), some (zI 1)], [], (z_w (z_w (z_w (z_w (z_w (z_w (z_w (z_w (z_w (z_w (z_w M 0 0 9 1) 0 0 10 1) 0 0 12 0) 0 0 13 100) 0 0 14 0) 14 0 0 0) 15 0 0 0) 16 0 0 0) 14 0 1 0) 15 0 1 0) 16 0 1 0), false)) rfl (by first | decide | (dsimp only; decide)) ?_
    refine zT.it 4 (t := (47, [some (zR 0 0), some (zI 2)], [zI 3, zI 2], (z_w (z_w (z_w (z_w (z_w (z_w (z_w (z_w (z_w (z_w (z_w M 0 0 9 1) 0 0 10 1) 0 0 12 0) 0 0 13 100) 0 0 14 0) 14 0 0 0) 15 0 0 0) 16 0 0 0) 14 0 1 0) 15 0 1 0) 16 0 1 0), false)) rfl ?_
    refine zT.br (g := zr 2 ∧ zr 3) (p := 3 ≤ 2) (t := (77, [some (zR 0 0), some (zI 2)], [], (z_w (z_w (z_w (z_w (z_w (z_w (z_w (z_w (z_w (z_w (z_w M 0 0 9 1) 0 0 10 1) 0 0 12 0) 0 0 13 100) 0 0 14 0) 14 0 0 0) 15 0 0 0) 16 0 0 0) 14 0 1 0) 15 0 1 0) 16 0 1 0), false)) (u := (50, [some (zR 0 0), some (zI 2)], [], (z_w (z_w (z_w (z_w (z_w (z_w (z_w (z_w (z_w (z_w (z_w M 0 0 9 1) 0 0 10 1) 0 0 12 0) 0 0 13 100) 0 0 14 0) 14 0 0 0) 15 0 0 0) 16 0 0 0) 14 0 1 0) 15 0 1 0) 16 0 1 0), false)) rfl (by decide) (fun c => absurd c (by decide)) (fun c => ?_)
    refine zT.it 4 (t := (56, [some (zR 0 0), some (zI 2)], [zI 0, zI 2, zR 14 0], (z_w (z_w (z_w (z_w (z_w (z_w (z_w (z_w (z_w (z_w (z_w M 0 0 9 1) 0 0 10 1) 0 0 12 0) 0 0 13 100) 0 0 14 0) 14 0 0 0) 15 0 0 0) 16 0 0 0) 14 0 1 0) 15 0 1 0) 16 0 1 0), false)) rfl ?_
    refine zT.chk (t := (57, [some (zR 0 0), some (zI 2)], [], (z_w (z_w (z_w (z_w (z_w (z_w (z_w (z_w (z_w (z_w (z_w (z_w M 0 0 9 1) 0 0 10 1) 0 0 12 0) 0 0 13 100) 0 0 14 0) 14 0 0 0) 15 0 0 0) 16 0 0 0) 14 0 1 0) 15 0 1 0) 16 0 1 0) 14 0 2 0), false)) rfl (by first | decide | (dsimp only; decide)) ?_
    refine zT.it 4 (t := (63, [some (zR 0 0), some (zI 2)], [zI 0, zI 2, zR 15 0], (z_w (z_w (z_w (z_w (z_w (z_w (z_w (z_w (z_w (z_w (z_w (z_w M 0 0 9 1) 0 0 10 1) 0 0 12 0) 0 0 13 100) 0 0 14 0) 14 0 0 0) 15 0 0 0) 16 0 0 0) 14 0 1 0) 15 0 1 0) 16 0 1 0) 14 0 2 0), false)) rfl ?_
    refine zT.chk (t := (64, [some (zR 0 0), some (zI 2)], [], (z_w (z_w (z_w (z_w (z_w (z_w (z_w (z_w (z_w (z_w (z_w (z_w (z_w M 0 0 9 1) 0 0 10 1) 0 0 12 0) 0 0 13 100) 0 0 14 0) 14 0 0 0) 15 0 0 0) 16 0 0 0) 14 0 1 0) 15 0 1 0) 16 0 1 0) 14 0 2 0) 15 0 2 0), false)) rfl (by first | decide | (dsimp only; decide)) ?_
    refine zT.it 4 (t := (70, [some (zR 0 0), some (zI 2)], [zI 0, zI 2, zR 16 0], (z_w (z_w (z_w (z_w (z_w (z_w (z_w (z_w (z_w (z_w (z_w (z_w (z_w M 0 0 9 1) 0 0 10 1) 0 0 12 0) 0 0 13 100) 0 0 14 0) 14 0 0 0) 15 0 0 0) 16 0 0 0) 14 0 1 0) 15 0 1 0) 16 0 1 0) 14 0 2 0) 15 0 2 0), false)) rfl ?_
    refine zT.chk (t := (71, [some (zR 0 0), some (zI 2)], [], (z_w (z_w (z_w (z_w (z_w (z_w (z_w (z_w (z_w (z_w (z_w (z_w (z_w (z_w M 0 0 9 1) 0 0 10 1) 0 0 12 0) 0 0 13 100) 0 0 14 0) 14 0 0 0) 15 0 0 0) 16 0 0 0) 14 0 1 0) 15 0 1 0) 16 0 1 0) 14 0 2 0) 15 0 2 0) 16 0 2 0), false)) rfl (by first | decide | (dsimp only; decide)) ?_
    refine zT.it 4 (t := (47, [some (zR 0 0), some (zI 3)], [zI 3, zI 3], (z_w (z_w (z_w (z_w (z_w (z_w (z_w (z_w (z_w (z_w (z_w (z_w (z_w (z_w M 0 0 9 1) 0 0 10 1) 0 0 12 0) 0 0 13 100) 0 0 14 0) 14 0 0 0) 15 0 0 0) 16 0 0 0) 14 0 1 0) 15 0 1 0) 16 0 1 0) 14 0 2 0) 15 0 2 0) 16 0 2 0), false)) rfl ?_
    refine zT.br (g := zr 3 ∧ zr 3) (p := 3 ≤ 3) (t := (77, [some (zR 0 0), some (zI 3)], [], (z_w (z_w (z_w (z_w (z_w (z_w (z_w (z_w (z_w (z_w (z_w (z_w (z_w (z_w M 0 0 9 1) 0 0 10 1) 0 0 12 0) 0 0 13 100) 0 0 14 0) 14 0 0 0) 15 0 0 0) 16 0 0 0) 14 0 1 0) 15 0 1 0) 16 0 1 0) 14 0 2 0) 15 0 2 0) 16 0 2 0), false)) (u := (50, [some (zR 0 0), some (zI 3)], [], (z_w (z_w (z_w (z_w (z_w (z_w (z_w (z_w (z_w (z_w (z_w (z_w (z_w (z_w M 0 0 9 1) 0 0 10 1) 0 0 12 0) 0 0 13 100) 0 0 14 0) 14 0 0 0) 15 0 0 0) 16 0 0 0) 14 0 1 0) 15 0 1 0) 16 0 1 0) 14 0 2 0) 15 0 2 0) 16 0 2 0), false)) rfl (by decide) (fun c => ?_) (fun c => absurd (by decide) c)
    refine zT.it 2 (t := (81, [some (zR 0 0), some (zI 3)], [zR 12 0], (z_w (z_w (z_w (z_w (z_w (z_w (z_w (z_w (z_w (z_w (z_w (z_w (z_w (z_w M 0 0 9 1) 0 0 10 1) 0 0 12 0) 0 0 13 100) 0 0 14 0) 14 0 0 0) 15 0 0 0) 16 0 0 0) 14 0 1 0) 15 0 1 0) 16 0 1 0) 14 0 2 0) 15 0 2 0) 16 0 2 0), false)) rfl ?_
    refine zT.call (m := 130) (as := [zR 12 0]) (M := (z_w (z_w (z_w (z_w (z_w (z_w (z_w (z_w (z_w (z_w (z_w (z_w (z_w (z_w M 0 0 9 1) 0 0 10 1) 0 0 12 0) 0 0 13 100) 0 0 14 0) 14 0 0 0) 15 0 0 0) 16 0 0 0) 14 0 1 0) 15 0 1 0) 16 0 1 0) 14 0 2 0) 15 0 2 0) 16 0 2 0)) (L := [some (zR 0 0), some (zI 3)]) (st := []) (pn := 84) (cl := false) rfl ?_
    refine zF.mono h (fun v M1 h cl1 => ?_)
    obtain ⟨e1, h⟩ := h; subst e1; replace h := h cl1
    show zT 131 (84, [some (zR 0 0), some (zI 3)], [], M1, cl1) _
    exact zT.ret (v := none) rfl trivial h
  · replace h := h.2.2 c
    exact zT.thr (x := 0) rfl h
theorem g132_0 {M : zM} {Q : zQ} (h : zX 131 [zR 0 0] M (fun v M1 c => v = none ∧ ∀ cl1 : Bool, Q (.inl (some (zI 0))) M1 cl1 0) (fun x M1 => ∃ a, xm_hd 132 1 x = some a ∧ Q (.inl (some (zI a.toInt))) M1 true 1)) : zT 132 (0, [some (zR 0 0), none], [], M, true) Q := by
  refine zT.it 1 (t := (1, [some (zR 0 0), none], [zR 0 0], M, true)) rfl ?_
  refine zT.callh (m := 131) (as := [zR 0 0]) (M := M) (L := [some (zR 0 0), none]) (st := []) (pn := 4) (cl := true) rfl ?_
  refine zX.mono h (fun v M1 c h => ?_) (fun _ _ h => h)
  obtain ⟨e1, h⟩ := h; subst e1; replace h := h (true && c)
  generalize (true && c) = cl1 at h ⊢
  show zT 132 (4, [some (zR 0 0), none], [], M1, cl1) _
  refine zT.it 2 (t := (11, [some (zR 0 0), none], [zI 0], M1, cl1)) rfl ?_
  exact zT.ret (v := some (zI 0)) rfl (by first | exact trivial | decide) h
theorem g133_0 {M : zM} {Q : zQ} (h : (zr (M.1 30 0 3) ∧ zr (M.1 30 0 7)) ∧ (((M.1 30 0 3) ≤ (M.1 30 0 7) → Q (.inl (some (zI 1))) M true 0) ∧ (¬ ((M.1 30 0 3) ≤ (M.1 30 0 7)) → Q (.inl (some (zI 0))) M true 0))) : zT 133 (0, [some (zR 18 0)], [], M, true) Q := by
  refine zT.it 3 (t := (5, [some (zR 18 0)], [zI 3, zR 30 0], M, true)) rfl ?_
  refine zT.chk (t := (6, [some (zR 18 0)], [zI (M.1 30 0 3)], M, true)) rfl (by first | decide | (dsimp only; decide)) ?_
  refine zT.it 3 (t := (12, [some (zR 18 0)], [zI 7, zR 30 0, zI (M.1 30 0 3)], M, true)) rfl ?_
  refine zT.chk (t := (13, [some (zR 18 0)], [zI (M.1 30 0 7), zI (M.1 30 0 3)], M, true)) rfl (by first | decide | (dsimp only; decide)) ?_
  refine zT.br (g := zr (M.1 30 0 3) ∧ zr (M.1 30 0 7)) (p := (M.1 30 0 3) ≤ (M.1 30 0 7)) (t := (20, [some (zR 18 0)], [], M, true)) (u := (16, [some (zR 18 0)], [], M, true)) rfl h.1 (fun c => ?_) (fun c => ?_)
  · replace h := h.2.1 c
    refine zT.it 1 (t := (21, [some (zR 18 0)], [zI 1], M, true)) rfl ?_
    exact zT.ret (v := some (zI 1)) rfl (by first | exact trivial | decide) h
  · replace h := h.2.2 c
    refine zT.it 2 (t := (21, [some (zR 18 0)], [zI 0], M, true)) rfl ?_
    exact zT.ret (v := some (zI 0)) rfl (by first | exact trivial | decide) h
theorem g134_0 {M : zM} {Q : zQ} (h : (zr (M.1 18 0 26)) ∧ (((M.1 18 0 26) = 0 → Q (.inl none) (z_w M 18 0 1 1) false 0) ∧ (¬ ((M.1 18 0 26) = 0) → zF 133 [zR 18 0] (z_w (z_w (z_w (z_w (z_w (z_w (z_w (z_w (z_w (z_w (z_w (z_w (z_w (z_w (z_w M 18 0 1 0) 18 0 26 0) 18 0 27 1) 18 0 8 0) 18 0 9 0) 18 0 10 100) 22 0 0 0) 23 0 0 0) 24 0 0 0) 22 0 1 0) 23 0 1 0) 24 0 1 0) 22 0 2 0) 23 0 2 0) 24 0 2 0) (fun v M1 => ∃ r1 : Int, v = some (zI r1) ∧ ∀ cl1 : Bool, (z_wi ((4 * r1) + 3) 8) ∧ (Q (.inl none) (z_w M1 18 0 29 (M1.1 30 0 (((4 * r1) + 3).toNat))) false 0))))) : zT 134 (0, [some (zR 18 0), none], [], M, true) Q := by
  refine zT.it 3 (t := (5, [some (zR 18 0), none], [zI (M.1 18 0 26), zR 18 0], M, true)) rfl ?_
  refine zT.br (g := zr (M.1 18 0 26)) (p := (M.1 18 0 26) = 0) (t := (12, [some (zR 18 0), none], [zR 18 0], M, true)) (u := (8, [some (zR 18 0), none], [zR 18 0], M, true)) rfl h.1 (fun c => ?_) (fun c => ?_)
  · replace h := h.2.1 c
    refine zT.it 4 (t := (20, [some (zR 18 0), none], [zI 1], (z_w M 18 0 1 1), false)) rfl ?_
    refine zT.br (g := zr 1) (p := 1 ≤ 0) (t := (24, [some (zR 18 0), none], [], (z_w M 18 0 1 1), false)) (u := (23, [some (zR 18 0), none], [], (z_w M 18 0 1 1), false)) rfl (by decide) (fun c => absurd c (by decide)) (fun c => ?_)
    exact zT.ret (v := none) rfl trivial h
  · replace h := h.2.2 c
    refine zT.it 5 (t := (20, [some (zR 18 0), none], [zI 0], (z_w M 18 0 1 0), false)) rfl ?_
    refine zT.br (g := zr 0) (p := 0 ≤ 0) (t := (24, [some (zR 18 0), none], [], (z_w M 18 0 1 0), false)) (u := (23, [some (zR 18 0), none], [], (z_w M 18 0 1 0), false)) rfl (by decide) (fun c => ?_) (fun c => absurd (by decide) c)
    refine zT.it 2 (t := (26, [some (zR 18 0), none], [zI 0, zR 18 0], (z_w M 18 0 1 0), false)) rfl ?_
    refine zT.chk (t := (29, [some (zR 18 0), none], [], (z_w (z_w M 18 0 1 0) 18 0 26 0), false)) rfl (by first | decide | (dsimp only; decide)) ?_
    refine zT.it 2 (t := (31, [some (zR 18 0), none], [zI 1, zR 18 0], (z_w (z_w M 18 0 1 0) 18 0 26 0), false)) rfl ?_
    refine zT.chk (t := (34, [some (zR 18 0), none], [], (z_w (z_w (z_w M 18 0 1 0) 18 0 26 0) 18 0 27 1), false)) rfl (by first | decide | (dsimp only; decide)) ?_
    refine zT.it 5 (t := (41, [some (zR 18 0), none], [zI 0, zR 18 0], (z_w (z_w (z_w (z_w M 18 0 1 0) 18 0 26 0) 18 0 27 1) 18 0 8 0), false)) rfl ?_
    refine zT.chk (t := (44, [some (zR 18 0), none], [], (z_w (z_w (z_w (z_w (z_w M 18 0 1 0) 18 0 26 0) 18 0 27 1) 18 0 8 0) 18 0 9 0), false)) rfl (by first | decide | (dsimp only; decide)) ?_
    refine zT.it 7 (t := (54, [some (zR 18 0), some (zI 0)], [zI 3, zI 0], (z_w (z_w (z_w (z_w (z_w (z_w M 18 0 1 0) 18 0 26 0) 18 0 27 1) 18 0 8 0) 18 0 9 0) 18 0 10 100), false)) rfl ?_
    refine zT.br (g := zr 0 ∧ zr 3) (p := 3 ≤ 0) (t := (84, [some (zR 18 0), some (zI 0)], [], (z_w (z_w (z_w (z_w (z_w (z_w M 18 0 1 0) 18 0 26 0) 18 0 27 1) 18 0 8 0) 18 0 9 0) 18 0 10 100), false)) (u := (57, [some (zR 18 0), some (zI 0)], [], (z_w (z_w (z_w (z_w (z_w (z_w M 18 0 1 0) 18 0 26 0) 18 0 27 1) 18 0 8 0) 18 0 9 0) 18 0 10 100), false)) rfl (by decide) (fun c => absurd c (by decide)) (fun c => ?_)
    refine zT.it 4 (t := (63, [some (zR 18 0), some (zI 0)], [zI 0, zI 0, zR 22 0], (z_w (z_w (z_w (z_w (z_w (z_w M 18 0 1 0) 18 0 26 0) 18 0 27 1) 18 0 8 0) 18 0 9 0) 18 0 10 100), false)) rfl ?_
    refine zT.chk (t := (64, [some (zR 18 0), some (zI 0)], [], (z_w (z_w (z_w (z_w (z_w (z_w (z_w M 18 0 1 0) 18 0 26 0) 18 0 27 1) 18 0 8 0) 18 0 9 0) 18 0 10 100) 22 0 0 0), false)) rfl (by first | decide | (dsimp only; decide)) ?_
    refine zT.it 4 (t := (70, [some (zR 18 0), some (zI 0)], [zI 0, zI 0, zR 23 0], (z_w (z_w (z_w (z_w (z_w (z_w (z_w M 18 0 1 0) 18 0 26 0) 18 0 27 1) 18 0 8 0) 18 0 9 0) 18 0 10 100) 22 0 0 0), false)) rfl ?_
    refine zT.chk (t := (71, [some (zR 18 0), some (zI 0)], [], (z_w (z_w (z_w (z_w (z_w (z_w (z_w (z_w M 18 0 1 0) 18 0 26 0) 18 0 27 1) 18 0 8 0) 18 0 9 0) 18 0 10 100) 22 0 0 0) 23 0 0 0), false)) rfl (by first | decide | (dsimp only; decide)) ?_
    refine zT.it 4 (t := (77, [some (zR 18 0), some (zI 0)], [zI 0, zI 0, zR 24 0], (z_w (z_w (z_w (z_w (z_w (z_w (z_w (z_w M 18 0 1 0) 18 0 26 0) 18 0 27 1) 18 0 8 0) 18 0 9 0) 18 0 10 100) 22 0 0 0) 23 0 0 0), false)) rfl ?_
    refine zT.chk (t := (78, [some (zR 18 0), some (zI 0)], [], (z_w (z_w (z_w (z_w (z_w (z_w (z_w (z_w (z_w M 18 0 1 0) 18 0 26 0) 18 0 27 1) 18 0 8 0) 18 0 9 0) 18 0 10 100) 22 0 0 0) 23 0 0 0) 24 0 0 0), false)) rfl (by first | decide | (dsimp only; decide)) ?_
    refine zT.it 4 (t := (54, [some (zR 18 0), some (zI 1)], [zI 3, zI 1], (z_w (z_w (z_w (z_w (z_w (z_w (z_w (z_w (z_w M 18 0 1 0) 18 0 26 0) 18 0 27 1) 18 0 8 0) 18 0 9 0) 18 0 10 100) 22 0 0 0) 23 0 0 0) 24 0 0 0), false)) rfl ?_
    refine zT.br (g := zr 1 ∧ zr 3) (p := 3 ≤ 1) (t := (84, [some (zR 18 0), some (zI 1)], [], (z_w (z_w (z_w (z_w (z_w (z_w (z_w (z_w (z_w M 18 0 1 0) 18 0 26 0) 18 0 27 1) 18 0 8 0) 18 0 9 0) 18 0 10 100) 22 0 0 0) 23 0 0 0) 24 0 0 0), false)) (u := (57, [some (zR 18 0), some (zI 1)], [], (z_w (z_w (z_w (z_w (z_w (z_w (z_w (z_w (z_w M 18 0 1 0) 18 0 26 0) 18 0 27 1) 18 0 8 0) 18 0 9 0) 18 0 10 100) 22 0 0 0) 23 0 0 0) 24 0 0 0), false)) rfl (by decide) (fun c => absurd c (by decide)) (fun c => ?_)
    refine zT.it 4 (t := (63, [some (zR 18 0), some (zI 1)], [zI 0, zI 1, zR 22 0], (z_w (z_w (z_w (z_w (z_w (z_w (z_w (z_w (z_w M 18 0 1 0) 18 0 26 0) 18 0 27 1) 18 0 8 0) 18 0 9 0) 18 0 10 100) 22 0 0 0) 23 0 0 0) 24 0 0 0), false)) rfl ?_
    refine zT.chk (t := (64, [some (zR 18 0), some (zI 1)], [], (z_w (z_w (z_w (z_w (z_w (z_w (z_w (z_w (z_w (z_w M 18 0 1 0) 18 0 26 0) 18 0 27 1) 18 0 8 0) 18 0 9 0) 18 0 10 100) 22 0 0 0) 23 0 0 0) 24 0 0 0) 22 0 1 0), false)) rfl (by first | decide | (dsimp only; decide)) ?_
    refine zT.it 4 (t := (70, [some (zR 18 0), some (zI 1)], [zI 0, zI 1, zR 23 0], (z_w (z_w (z_w (z_w (z_w (z_w (z_w (z_w (z_w (z_w M 18 0 1 0) 18 0 26 0) 18 0 27 1) 18 0 8 0) 18 0 9 0) 18 0 10 100) 22 0 0 0) 23 0 0 0) 24 0 0 0) 22 0 1 0), false)) rfl ?_
    refine zT.chk (t := (71, [some (zR 18 0), some (zI 1)], [], (z_w (z_w (z_w (z_w (z_w (z_w (z_w (z_w (z_w (z_w (z_w M 18 0 1 0) 18 0 26 0) 18 0 27 1) 18 0 8 0) 18 0 9 0) 18 0 10 100) 22 0 0 0) 23 0 0 0) 24 0 0 0) 22 0 1 0) 23 0 1 0), false)) rfl (by first | decide | (dsimp only; decide)) ?_
    refine zT.it 4 (t := (77, [some (zR 18 0), some (zI 1)], [zI 0, zI 1, zR 24 0], (z_w (z_w (z_w (z_w (z_w (z_w (z_w (z_w (z_w (z_w (z_w M 18 0 1 0) 18 0 26 0) 18 0 27 1) 18 0 8 0) 18 0 9 0) 18 0 10 100) 22 0 0 0) 23 0 0 0) 24 0 0 0) 22 0 1 0) 23 0 1 0), false)) rfl ?_
    refine zT.chk (t := (78, [some (zR 18 0), some (zI 1)], [], (z_w (z_w (z_w (z_w (z_w (z_w (z_w (z_w (z_w (z_w (z_w (z_w M 18 0 1 0) 18 0 26 0) 18 0 27 1) 18 0 8 0) 18 0 9 0) 18 0 10 100) 22 0 0 0) 23 0 0 0) 24 0 0 0) 22 0 1 0) 23 0 1 0) 24 0 1 0), false)) rfl (by first | decide | (dsimp only; decide)) ?_
    refine zT.it 4 (t := (54, [some (zR 18 0), some (zI 2)], [zI 3, zI 2], (z_w (z_w (z_w (z_w (z_w (z_w (z_w (z_w (z_w (z_w (z_w (z_w M 18 0 1 0) 18 0 26 0) 18 0 27 1) 18 0 8 0) 18 0 9 0) 18 0 10 100) 22 0 0 0) 23 0 0 0) 24 0 0 0) 22 0 1 0) 23 0 1 0) 24 0 1 0), false)) rfl ?_
    refine zT.br (g := zr 2 ∧ zr 3) (p := 3 ≤ 2) (t := (84, [some (zR 18 0), some (zI 2)], [], (z_w (z_w (z_w (z_w (z_w (z_w (z_w (z_w (z_w (z_w (z_w (z_w M 18 0 1 0) 18 0 26 0) 18 0 27 1) 18 0 8 0) 18 0 9 0) 18 0 10 100) 22 0 0 0) 23 0 0 0) 24 0 0 0) 22 0 1 0) 23 0 1 0) 24 0 1 0), false)) (u := (57, [some (zR 18 0), some (zI 2)], [], (z_w (z_w (z_w (z_w (z_w (z_w (z_w (z_w (z_w (z_w (z_w (z_w M 18 0 1 0) 18 0 26 0) 18 0 27 1) 18 0 8 0) 18 0 9 0) 18 0 10 100) 22 0 0 0) 23 0 0 0) 24 0 0 0) 22 0 1 0) 23 0 1 0) 24 0 1 0), false)) rfl (by decide) (fun c => absurd c (by decide)) (fun c => ?_)
    refine zT.it 4 (t := (63, [some (zR 18 0), some (zI 2)], [zI 0, zI 2, zR 22 0], (z_w (z_w (z_w (z_w (z_w (z_w (z_w (z_w (z_w (z_w (z_w (z_w M 18 0 1 0) 18 0 26 0) 18 0 27 1) 18 0 8 0) 18 0 9 0) 18 0 10 100) 22 0 0 0) 23 0 0 0) 24 0 0 0) 22 0 1 0) 23 0 1 0) 24 0 1 0), false)) rfl ?_
    refine zT.chk (t := (64, [some (zR 18 0), some (zI 2)], [], (z_w (z_w (z_w (z_w (z_w (z_w (z_w (z_w (z_w (z_w (z_w (z_w (z_w M 18 0 1 0) 18 0 26 0) 18 0 27 1) 18 0 8 0) 18 0 9 0) 18 0 10 100) 22 0 0 0) 23 0 0 0) 24 0 0 0) 22 0 1 0) 23 0 1 0) 24 0 1 0) 22 0 2 0), false)) rfl (by first | decide | (dsimp only; decide)) ?_
    refine zT.it 4 (t := (70, [some (zR 18 0), some (zI 2)], [zI 0, zI 2, zR 23 0], (z_w (z_w (z_w (z_w (z_w (z_w (z_w (z_w (z_w (z_w (z_w (z_w (z_w M 18 0 1 0) 18 0 26 0) 18 0 27 1) 18 0 8 0) 18 0 9 0) 18 0 10 100) 22 0 0 0) 23 0 0 0) 24 0 0 0) 22 0 1 0) 23 0 1 0) 24 0 1 0) 22 0 2 0), false)) rfl ?_
    refine zT.chk (t := (71, [some (zR 18 0), some (zI 2)], [], (z_w (z_w (z_w (z_w (z_w (z_w (z_w (z_w (z_w (z_w (z_w (z_w (z_w (z_w M 18 0 1 0) 18 0 26 0) 18 0 27 1) 18 0 8 0) 18 0 9 0) 18 0 10 100) 22 0 0 0) 23 0 0 0) 24 0 0 0) 22 0 1 0) 23 0 1 0) 24 0 1 0) 22 0 2 0) 23 0 2 0), false)) rfl (by first | decide | (dsimp only; decide)) ?_
    refine zT.it 4 (t := (77, [some (zR 18 0), some (zI 2)], [zI 0, zI 2, zR 24 0], (z_w (z_w (z_w (z_w (z_w (z_w (z_w (z_w (z_w (z_w (z_w (z_w (z_w (z_w M 18 0 1 0) 18 0 26 0) 18 0 27 1) 18 0 8 0) 18 0 9 0) 18 0 10 100) 22 0 0 0) 23 0 0 0) 24 0 0 0) 22 0 1 0) 23 0 1 0) 24 0 1 0) 22 0 2 0) 23 0 2 0), false)) rfl ?_
    refine zT.chk (t := (78, [some (zR 18 0), some (zI 2)], [], (z_w (z_w (z_w (z_w (z_w (z_w (z_w (z_w (z_w (z_w (z_w (z_w (z_w (z_w (z_w M 18 0 1 0) 18 0 26 0) 18 0 27 1) 18 0 8 0) 18 0 9 0) 18 0 10 100) 22 0 0 0) 23 0 0 0) 24 0 0 0) 22 0 1 0) 23 0 1 0) 24 0 1 0) 22 0 2 0) 23 0 2 0) 24 0 2 0), false)) rfl (by first | decide | (dsimp only; decide)) ?_
    refine zT.it 4 (t := (54, [some (zR 18 0), some (zI 3)], [zI 3, zI 3], (z_w (z_w (z_w (z_w (z_w (z_w (z_w (z_w (z_w (z_w (z_w (z_w (z_w (z_w (z_w M 18 0 1 0) 18 0 26 0) 18 0 27 1) 18 0 8 0) 18 0 9 0) 18 0 10 100) 22 0 0 0) 23 0 0 0) 24 0 0 0) 22 0 1 0) 23 0 1 0) 24 0 1 0) 22 0 2 0) 23 0 2 0) 24 0 2 0), false)) rfl ?_
    refine zT.br (g := zr 3 ∧ zr 3) (p := 3 ≤ 3) (t := (84, [some (zR 18 0), some (zI 3)], [], (z_w (z_w (z_w (z_w (z_w (z_w (z_w (z_w (z_w (z_w (z_w (z_w (z_w (z_w (z_w M 18 0 1 0) 18 0 26 0) 18 0 27 1) 18 0 8 0) 18 0 9 0) 18 0 10 100) 22 0 0 0) 23 0 0 0) 24 0 0 0) 22 0 1 0) 23 0 1 0) 24 0 1 0) 22 0 2 0) 23 0 2 0) 24 0 2 0), false)) (u := (57, [some (zR 18 0), some (zI 3)], [], (z_w (z_w (z_w (z_w (z_w (z_w (z_w (z_w (z_w (z_w (z_w (z_w (z_w (z_w (z_w M 18 0 1 0) 18 0 26 0) 18 0 27 1) 18 0 8 0) 18 0 9 0) 18 0 10 100) 22 0 0 0) 23 0 0 0) 24 0 0 0) 22 0 1 0) 23 0 1 0) 24 0 1 0) 22 0 2 0) 23 0 2 0) 24 0 2 0), false)) rfl (by decide) (fun c => ?_) (fun c => absurd (by decide) c)
    refine zT.it 5 (t := (91, [some (zR 18 0), some (zI 3)], [zR 18 0, zI 4, zR 30 0, zR 18 0], (z_w (z_w (z_w (z_w (z_w (z_w (z_w (z_w (z_w (z_w (z_w (z_w (z_w (z_w (z_w M 18 0 1 0) 18 0 26 0) 18 0 27 1) 18 0 8 0) 18 0 9 0) 18 0 10 100) 22 0 0 0) 23 0 0 0) 24 0 0 0) 22 0 1 0) 23 0 1 0) 24 0 1 0) 22 0 2 0) 23 0 2 0) 24 0 2 0), false)) rfl ?_
    refine zT.call (m := 133) (as := [zR 18 0]) (M := (z_w (z_w (z_w (z_w (z_w (z_w (z_w (z_w (z_w (z_w (z_w (z_w (z_w (z_w (z_w M 18 0 1 0) 18 0 26 0) 18 0 27 1) 18 0 8 0) 18 0 9 0) 18 0 10 100) 22 0 0 0) 23 0 0 0) 24 0 0 0) 22 0 1 0) 23 0 1 0) 24 0 1 0) 22 0 2 0) 23 0 2 0) 24 0 2 0)) (L := [some (zR 18 0), some (zI 3)]) (st := [zI 4, zR 30 0, zR 18 0]) (pn := 94) (cl := false) rfl ?_
    refine zF.mono h (fun v M1 h cl1 => ?_)
    obtain ⟨r1, e1, h⟩ := h; subst e1; replace h := h cl1
    show zT 134 (94, [some (zR 18 0), some (zI 3)], [zI r1, zI 4, zR 30 0, zR 18 0], M1, cl1) _
    refine zT.it 3 (t := (97, [some (zR 18 0), some (zI 3)], [zI ((4 * r1) + 3), zR 30 0, zR 18 0], M1, cl1)) rfl ?_
    refine zT.chk (p := z_wi ((4 * r1) + 3) 8) (t := (98, [some (zR 18 0), some (zI 3)], [zI (M1.1 30 0 (((4 * r1) + 3).toNat)), zR 18 0], M1, cl1)) rfl h.1 ?_
    replace h := h.2
    refine zT.it 1 (t := (101, [some (zR 18 0), some (zI 3)], [], (z_w M1 18 0 29 (M1.1 30 0 (((4 * r1) + 3).toNat))), false)) rfl ?_
    exact zT.ret (v := none) rfl trivial h
theorem g135_0 {M : zM} {Q : zQ} (h : (zr (M.1 0 0 9)) ∧ (((M.1 0 0 9) = 0 → Q (.inr 0) M true 1) ∧ (¬ ((M.1 0 0 9) = 0) → (zr (M.1 0 0 10)) ∧ ((¬ (M.1 0 0 10) = 0 → Q (.inl none) M true 0) ∧ ((M.1 0 0 10) = 0 → Q (.inr 0) M true 1))))) : zT 135 (0, [some (zR 0 0)], [], M, true) Q := by
  refine zT.it 2 (t := (4, [some (zR 0 0)], [zI (M.1 0 0 9)], M, true)) rfl ?_
  refine zT.br (g := zr (M.1 0 0 9)) (p := (M.1 0 0 9) = 0) (t := (14, [some (zR 0 0)], [], M, true)) (u := (7, [some (zR 0 0)], [], M, true)) rfl h.1 (fun c => ?_) (fun c => ?_)
  · replace h := h.2.1 c
    exact zT.thr (x := 0) rfl h
  · replace h := h.2.2 c
    refine zT.it 2 (t := (11, [some (zR 0 0)], [zI (M.1 0 0 10)], M, true)) rfl ?_
    refine zT.br (g := zr (M.1 0 0 10)) (p := ¬ (M.1 0 0 10) = 0) (t := (24, [some (zR 0 0)], [], M, true)) (u := (14, [some (zR 0 0)], [], M, true)) rfl h.1 (fun c => ?_) (fun c => ?_)
    · replace h := h.2.1 c
      exact zT.ret (v := none) rfl trivial h
    · replace h := h.2.2 (Decidable.not_not.1 c)
      exact zT.thr (x := 0) rfl h
theorem g136_0 {M : zM} {Q : zQ} (h : zX 135 [zR 0 0] M (fun v M1 c => c = true ∧ v = none ∧ Q (.inl none) (z_w M1 0 0 10 0) false 0) (fun x M1 => Q (.inr x) M1 true 1)) : zT 136 (0, [some (zR 0 0)], [], M, true) Q := by
  refine zT.it 1 (t := (1, [some (zR 0 0)], [zR 0 0], M, true)) rfl ?_
  refine zT.callx (m := 135) (as := [zR 0 0]) (M := M) (L := [some (zR 0 0)]) (st := []) (pn := 4) (cl := true) rfl rfl rfl ?_
  refine zX.mono h (fun v M1 c h => ?_) (fun _ _ h => ⟨rfl, h⟩)
  obtain ⟨hc, e1, h⟩ := h; subst hc; subst e1
  show zT 136 (4, [some (zR 0 0)], [], M1, true) _
  refine zT.it 2 (t := (6, [some (zR 0 0)], [zI 0, zR 0 0], M1, true)) rfl ?_
  refine zT.chk (t := (9, [some (zR 0 0)], [], (z_w M1 0 0 10 0), false)) rfl (by first | decide | (dsimp only; decide)) ?_
  exact zT.ret (v := none) rfl trivial h
theorem g137_0 {M : zM} {Q : zQ} (h : zX 136 [zR 0 0] M (fun v M1 c => v = none ∧ ∀ cl1 : Bool, Q (.inl (some (zI 0))) M1 cl1 0) (fun x M1 => ∃ a, xm_hd 137 1 x = some a ∧ Q (.inl (some (zI a.toInt))) M1 true 1)) : zT 137 (0, [some (zR 0 0), none], [], M, true) Q := by
  refine zT.it 1 (t := (1, [some (zR 0 0), none], [zR 0 0], M, true)) rfl ?_
  refine zT.callh (m := 136) (as := [zR 0 0]) (M := M) (L := [some (zR 0 0), none]) (st := []) (pn := 4) (cl := true) rfl ?_
  refine zX.mono h (fun v M1 c h => ?_) (fun _ _ h => h)
  obtain ⟨e1, h⟩ := h; subst e1; replace h := h (true && c)
  generalize (true && c) = cl1 at h ⊢
  show zT 137 (4, [some (zR 0 0), none], [], M1, cl1) _
  refine zT.it 2 (t := (11, [some (zR 0 0), none], [zI 0], M1, cl1)) rfl ?_
  exact zT.ret (v := some (zI 0)) rfl (by first | exact trivial | decide) h
theorem g138_0 {M : zM} {Q : zQ} (h : (zr (M.1 18 0 26)) ∧ ((¬ (M.1 18 0 26) = 0 → (zr (M.1 18 0 27)) ∧ (((M.1 18 0 27) = 0 → Q (.inl none) (z_w (z_w M 18 0 1 1) 18 0 27 0) false 0) ∧ (¬ ((M.1 18 0 27) = 0) → Q (.inl none) (z_w (z_w M 18 0 1 1) 18 0 27 1) false 0))) ∧ ((M.1 18 0 26) = 0 → (zr (M.1 18 0 27)) ∧ ((¬ (M.1 18 0 27) = 0 → Q (.inl none) (z_w (z_w M 18 0 1 0) 18 0 27 0) false 0) ∧ ((M.1 18 0 27) = 0 → (zr (M.1 18 0 27)) ∧ (((M.1 18 0 27) = 0 → Q (.inl none) (z_w (z_w M 18 0 1 1) 18 0 27 0) false 0) ∧ (¬ ((M.1 18 0 27) = 0) → Q (.inl none) (z_w (z_w M 18 0 1 1) 18 0 27 1) false 0))))))) : zT 138 (0, [some (zR 18 0)], [], M, true) Q := by
  refine zT.it 3 (t := (5, [some (zR 18 0)], [zI (M.1 18 0 26), zR 18 0], M, true)) rfl ?_
  refine zT.br (g := zr (M.1 18 0 26)) (p := ¬ (M.1 18 0 26) = 0) (t := (15, [some (zR 18 0)], [zR 18 0], M, true)) (u := (8, [some (zR 18 0)], [zR 18 0], M, true)) rfl h.1 (fun c => ?_) (fun c => ?_)
  · replace h := h.2.1 c
    refine zT.it 6 (t := (28, [some (zR 18 0)], [zI 1, zR 18 0], (z_w M 18 0 1 1), false)) rfl ?_
    refine zT.br (g := zr 1) (p := 1 ≤ 0) (t := (42, [some (zR 18 0)], [zR 18 0], (z_w M 18 0 1 1), false)) (u := (31, [some (zR 18 0)], [zR 18 0], (z_w M 18 0 1 1), false)) rfl (by decide) (fun c => absurd c (by decide)) (fun c => ?_)
    refine zT.it 2 (t := (35, [some (zR 18 0)], [zI (M.1 18 0 27), zR 18 0], (z_w M 18 0 1 1), false)) rfl ?_
    refine zT.br (g := zr (M.1 18 0 27)) (p := (M.1 18 0 27) = 0) (t := (42, [some (zR 18 0)], [zR 18 0], (z_w M 18 0 1 1), false)) (u := (38, [some (zR 18 0)], [zR 18 0], (z_w M 18 0 1 1), false)) rfl h.1 (fun c => ?_) (fun c => ?_)
    · replace h := h.2.1 c
      refine zT.it 1 (t := (43, [some (zR 18 0)], [zI 0, zR 18 0], (z_w M 18 0 1 1), false)) rfl ?_
      refine zT.chk (t := (46, [some (zR 18 0)], [], (z_w (z_w M 18 0 1 1) 18 0 27 0), false)) rfl (by first | decide | (dsimp only; decide)) ?_
      exact zT.ret (v := none) rfl trivial h
    · replace h := h.2.2 c
      refine zT.it 2 (t := (43, [some (zR 18 0)], [zI 1, zR 18 0], (z_w M 18 0 1 1), false)) rfl ?_
      refine zT.chk (t := (46, [some (zR 18 0)], [], (z_w (z_w M 18 0 1 1) 18 0 27 1), false)) rfl (by first | decide | (dsimp only; decide)) ?_
      exact zT.ret (v := none) rfl trivial h
  · replace h := h.2.2 (Decidable.not_not.1 c)
    refine zT.it 2 (t := (12, [some (zR 18 0)], [zI (M.1 18 0 27), zR 18 0], M, true)) rfl ?_
    refine zT.br (g := zr (M.1 18 0 27)) (p := ¬ (M.1 18 0 27) = 0) (t := (19, [some (zR 18 0)], [zR 18 0], M, true)) (u := (15, [some (zR 18 0)], [zR 18 0], M, true)) rfl h.1 (fun c => ?_) (fun c => ?_)
    · replace h := h.2.1 c
      refine zT.it 5 (t := (28, [some (zR 18 0)], [zI 0, zR 18 0], (z_w M 18 0 1 0), false)) rfl ?_
      refine zT.br (g := zr 0) (p := 0 ≤ 0) (t := (42, [some (zR 18 0)], [zR 18 0], (z_w M 18 0 1 0), false)) (u := (31, [some (zR 18 0)], [zR 18 0], (z_w M 18 0 1 0), false)) rfl (by decide) (fun c => ?_) (fun c => absurd (by decide) c)
      refine zT.it 1 (t := (43, [some (zR 18 0)], [zI 0, zR 18 0], (z_w M 18 0 1 0), false)) rfl ?_
      refine zT.chk (t := (46, [some (zR 18 0)], [], (z_w (z_w M 18 0 1 0) 18 0 27 0), false)) rfl (by first | decide | (dsimp only; decide)) ?_
      exact zT.ret (v := none) rfl trivial h
    · replace h := h.2.2 (Decidable.not_not.1 c)
      refine zT.it 6 (t := (28, [some (zR 18 0)], [zI 1, zR 18 0], (z_w M 18 0 1 1), false)) rfl ?_
      refine zT.br (g := zr 1) (p := 1 ≤ 0) (t := (42, [some (zR 18 0)], [zR 18 0], (z_w M 18 0 1 1), false)) (u := (31, [some (zR 18 0)], [zR 18 0], (z_w M 18 0 1 1), false)) rfl (by decide) (fun c => absurd c (by decide)) (fun c => ?_)
      refine zT.it 2 (t := (35, [some (zR 18 0)], [zI (M.1 18 0 27), zR 18 0], (z_w M 18 0 1 1), false)) rfl ?_
      refine zT.br (g := zr (M.1 18 0 27)) (p := (M.1 18 0 27) = 0) (t := (42, [some (zR 18 0)], [zR 18 0], (z_w M 18 0 1 1), false)) (u := (38, [some (zR 18 0)], [zR 18 0], (z_w M 18 0 1 1), false)) rfl h.1 (fun c => ?_) (fun c => ?_)
      · replace h := h.2.1 c
        refine zT.it 1 (t := (43, [some (zR 18 0)], [zI 0, zR 18 0], (z_w M 18 0 1 1), false)) rfl ?_
        refine zT.chk (t := (46, [some (zR 18 0)], [], (z_w (z_w M 18 0 1 1) 18 0 27 0), false)) rfl (by first | decide | (dsimp only; decide)) ?_
        exact zT.ret (v := none) rfl trivial h
      · replace h := h.2.2 c
        refine zT.it 2 (t := (43, [some (zR 18 0)], [zI 1, zR 18 0], (z_w M 18 0 1 1), false)) rfl ?_
        refine zT.chk (t := (46, [some (zR 18 0)], [], (z_w (z_w M 18 0 1 1) 18 0 27 1), false)) rfl (by first | decide | (dsimp only; decide)) ?_
        exact zT.ret (v := none) rfl trivial h
theorem g139_0 {M : zM} {Q : zQ} (h : zX 135 [zR 0 0] M (fun v M1 c => c = true ∧ v = none ∧ zX 129 [zR 12 0] M1 (fun v M2 c => c = true ∧ ∃ r2 : Int, v = some (zI r2) ∧ zX 128 [zR 12 0, zI r2, zI 3] M2 (fun v M3 c => c = true ∧ ∃ r3 : Int, v = some (zI r3) ∧ (zr r3) ∧ ((¬ r3 = 0 → zX 128 [zR 12 0, zI r2, zI 0] M3 (fun v M4 c => c = true ∧ ∃ r4 : Int, v = some (zI r4) ∧ zF 128 [zR 12 0, zI r2, zI 1] (z_w M4 14 0 0 r4) (fun v M5 => ∃ r5 : Int, v = some (zI r5) ∧ ∀ cl5 : Bool, zF 128 [zR 12 0, zI r2, zI 2] (z_w M5 14 0 1 r5) (fun v M6 => ∃ r6 : Int, v = some (zI r6) ∧ ∀ cl6 : Bool, zF 40 [zR 14 0, zR 15 0] (z_w M6 14 0 2 r6) (fun v M7 => v = none ∧ ∀ cl7 : Bool, Q (.inl (some (zI r3))) (z_w M7 0 0 10 0) false 0)))) (fun x M4 => Q (.inr x) M4 true 1)) ∧ (r3 = 0 → Q (.inr 3) M3 true 1))) (fun x M3 => Q (.inr x) M3 true 1)) (fun x M2 => Q (.inr x) M2 true 1)) (fun x M1 => Q (.inr x) M1 true 1)) : zT 139 (0, [some (zR 0 0), none, none, none], [], M, true) Q := by
  refine zT.it 1 (t := (1, [some (zR 0 0), none, none, none], [zR 0 0], M, true)) rfl ?_
  refine zT.callx (m := 135) (as := [zR 0 0]) (M := M) (L := [some (zR 0 0), none, none, none]) (st := []) (pn := 4) (cl := true) rfl rfl rfl ?_
  refine zX.mono h (fun v M1 c h => ?_) (fun _ _ h => ⟨rfl, h⟩)
  obtain ⟨hc, e1, h⟩ := h; subst hc; subst e1
  show zT 139 (4, [some (zR 0 0), none, none, none], [], M1, true) _
  refine zT.it 2 (t := (8, [some (zR 0 0), none, none, none], [zR 12 0], M1, true)) rfl ?_
  refine zT.callx (m := 129) (as := [zR 12 0]) (M := M1) (L := [some (zR 0 0), none, none, none]) (st := []) (pn := 11) (cl := true) rfl rfl rfl ?_
  refine zX.mono h (fun v M2 c h => ?_) (fun _ _ h => ⟨rfl, h⟩)
  obtain ⟨hc, r2, e2, h⟩ := h; subst hc; subst e2
  show zT 139 (11, [some (zR 0 0), none, none, none], [zI r2], M2, true) _
  refine zT.it 5 (t := (18, [some (zR 0 0), some (zI r2), none, none], [zI 3, zI r2, zR 12 0], M2, true)) rfl ?_
  refine zT.callx (m := 128) (as := [zR 12 0, zI r2, zI 3]) (M := M2) (L := [some (zR 0 0), some (zI r2), none, none]) (st := []) (pn := 21) (cl := true) rfl rfl rfl ?_
  refine zX.mono h (fun v M3 c h => ?_) (fun _ _ h => ⟨rfl, h⟩)
  obtain ⟨hc, r3, e3, h⟩ := h; subst hc; subst e3
  show zT 139 (21, [some (zR 0 0), some (zI r2), none, none], [zI r3], M3, true) _
  refine zT.it 2 (t := (23, [some (zR 0 0), some (zI r2), some (zI r3), none], [zI r3], M3, true)) rfl ?_
  refine zT.br (g := zr r3) (p := ¬ r3 = 0) (t := (36, [some (zR 0 0), some (zI r2), some (zI r3), none], [], M3, true)) (u := (26, [some (zR 0 0), some (zI r2), some (zI r3), none], [], M3, true)) rfl h.1 (fun c => ?_) (fun c => ?_)
  · replace h := h.2.1 c
    refine zT.it 4 (t := (40, [some (zR 0 0), some (zI r2), some (zI r3), some (zI 0)], [zI 3, zI 0], M3, true)) rfl ?_
    refine zT.br (g := zr 0 ∧ zr 3) (p := 3 ≤ 0) (t := (64, [some (zR 0 0), some (zI r2), some (zI r3), some (zI 0)], [], M3, true)) (u := (43, [some (zR 0 0), some (zI r2), some (zI r3), some (zI 0)], [], M3, true)) rfl (by decide) (fun c => absurd c (by decide)) (fun c => ?_)
    refine zT.it 7 (t := (54, [some (zR 0 0), some (zI r2), some (zI r3), some (zI 0)], [zI 0, zI r2, zR 12 0, zI 0, zR 14 0], M3, true)) rfl ?_
    refine zT.callx (m := 128) (as := [zR 12 0, zI r2, zI 0]) (M := M3) (L := [some (zR 0 0), some (zI r2), some (zI r3), some (zI 0)]) (st := [zI 0, zR 14 0]) (pn := 57) (cl := true) rfl rfl rfl ?_
    refine zX.mono h (fun v M4 c h => ?_) (fun _ _ h => ⟨rfl, h⟩)
    obtain ⟨hc, r4, e4, h⟩ := h; subst hc; subst e4
    show zT 139 (57, [some (zR 0 0), some (zI r2), some (zI r3), some (zI 0)], [zI r4, zI 0, zR 14 0], M4, true) _
    refine zT.chk (t := (58, [some (zR 0 0), some (zI r2), some (zI r3), some (zI 0)], [], (z_w M4 14 0 0 r4), false)) rfl (by first | decide | (dsimp only; decide)) ?_
    refine zT.it 4 (t := (40, [some (zR 0 0), some (zI r2), some (zI r3), some (zI 1)], [zI 3, zI 1], (z_w M4 14 0 0 r4), false)) rfl ?_
    refine zT.br (g := zr 1 ∧ zr 3) (p := 3 ≤ 1) (t := (64, [some (zR 0 0), some (zI r2), some (zI r3), some (zI 1)], [], (z_w M4 14 0 0 r4), false)) (u := (43, [some (zR 0 0), some (zI r2), some (zI r3), some (zI 1)], [], (z_w M4 14 0 0 r4), false)) rfl (by decide) (fun c => absurd c (by decide)) (fun c => ?_)
    refine zT.it 7 (t := (54, [some (zR 0 0), some (zI r2), some (zI r3), some (zI 1)], [zI 1, zI r2, zR 12 0, zI 1, zR 14 0], (z_w M4 14 0 0 r4), false)) rfl ?_
    refine zT.call (m := 128) (as := [zR 12 0, zI r2, zI 1]) (M := (z_w M4 14 0 0 r4)) (L := [some (zR 0 0), some (zI r2), some (zI r3), some (zI 1)]) (st := [zI 1, zR 14 0]) (pn := 57) (cl := false) rfl ?_
    refine zF.mono h (fun v M5 h cl5 => ?_)
    obtain ⟨r5, e5, h⟩ := h; subst e5; replace h := h cl5
    show zT 139 (57, [some (zR 0 0), some (zI r2), some (zI r3), some (zI 1)], [zI r5, zI 1, zR 14 0], M5, cl5) _
    refine zT.chk (t := (58, [some (zR 0 0), some (zI r2), some (zI r3), some (zI 1)], [], (z_w M5 14 0 1 r5), false)) rfl (by first | decide | (dsimp only; decide)) ?_
    refine zT.it 4 (t := (40, [some (zR 0 0), some (zI r2), some (zI r3), some (zI 2)], [zI 3, zI 2], (z_w M5 14 0 1 r5), false)) rfl ?_
    refine zT.br (g := zr 2 ∧ zr 3) (p := 3 ≤ 2) (t := (64, [some (zR 0 0), some (zI r2), some (zI r3), some (zI 2)], [], (z_w M5 14 0 1 r5), false)) (u := (43, [some (zR 0 0), some (zI r2), some (zI r3), some (zI 2)], [], (z_w M5 14 0 1 r5), false)) rfl (by decide) (fun c => absurd c (by decide)) (fun c => ?_)
    refine zT.it 7 (t := (54, [some (zR 0 0), some (zI r2), some (zI r3), some (zI 2)], [zI 2, zI r2, zR 12 0, zI 2, zR 14 0], (z_w M5 14 0 1 r5), false)) rfl ?_
    refine zT.call (m := 128) (as := [zR 12 0, zI r2, zI 2]) (M := (z_w M5 14 0 1 r5)) (L := [some (zR 0 0), some (zI r2), some (zI r3), some (zI 2)]) (st := [zI 2, zR 14 0]) (pn := 57) (cl := false) rfl ?_
    refine zF.mono h (fun v M6 h cl6 => ?_)
    obtain ⟨r6, e6, h⟩ := h; subst e6; replace h := h cl6
    show zT 139 (57, [some (zR 0 0), some (zI r2), some (zI r3), some (zI 2)], [zI r6, zI 2, zR 14 0], M6, cl6) _
    refine zT.chk (t := (58, [some (zR 0 0), some (zI r2), some (zI r3), some (zI 2)], [], (z_w M6 14 0 2 r6), false)) rfl (by first | decide | (dsimp only; decide)) ?_
    refine zT.it 4 (t := (40, [some (zR 0 0), some (zI r2), some (zI r3), some (zI 3)], [zI 3, zI 3], (z_w M6 14 0 2 r6), false)) rfl ?_
    refine zT.br (g := zr 3 ∧ zr 3) (p := 3 ≤ 3) (t := (64, [some (zR 0 0), some (zI r2), some (zI r3), some (zI 3)], [], (z_w M6 14 0 2 r6), false)) (u := (43, [some (zR 0 0), some (zI r2), some (zI r3), some (zI 3)], [], (z_w M6 14 0 2 r6), false)) rfl (by decide) (fun c => ?_) (fun c => absurd (by decide) c)
    refine zT.it 4 (t := (72, [some (zR 0 0), some (zI r2), some (zI r3), some (zI 3)], [zR 15 0, zR 14 0], (z_w M6 14 0 2 r6), false)) rfl ?_
    refine zT.call (m := 40) (as := [zR 14 0, zR 15 0]) (M := (z_w M6 14 0 2 r6)) (L := [some (zR 0 0), some (zI r2), some (zI r3), some (zI 3)]) (st := []) (pn := 75) (cl := false) rfl ?_
    refine zF.mono h (fun v M7 h cl7 => ?_)
    obtain ⟨e7, h⟩ := h; subst e7; replace h := h cl7
    show zT 139 (75, [some (zR 0 0), some (zI r2), some (zI r3), some (zI 3)], [], M7, cl7) _
    refine zT.it 2 (t := (77, [some (zR 0 0), some (zI r2), some (zI r3), some (zI 3)], [zI 0, zR 0 0], M7, cl7)) rfl ?_
    refine zT.chk (t := (80, [some (zR 0 0), some (zI r2), some (zI r3), some (zI 3)], [], (z_w M7 0 0 10 0), false)) rfl (by first | decide | (dsimp only; decide)) ?_
    refine zT.it 1 (t := (81, [some (zR 0 0), some (zI r2), some (zI r3), some (zI 3)], [zI r3], (z_w M7 0 0 10 0), false)) rfl ?_
    exact zT.ret (v := some (zI r3)) rfl (by first | exact trivial | decide) h
  · replace h := h.2.2 (Decidable.not_not.1 c)
    exact zT.thr (x := 3) rfl h
theorem g140_0 {M : zM} {Q : zQ} (h : zX 139 [zR 0 0] M (fun v M1 c => ∃ r1 : Int, v = some (zI r1) ∧ ∀ cl1 : Bool, (zr r1) ∧ (Q (.inl (some (zI 0))) (z_wl M1 31 0 0 r1) false 0)) (fun x M1 => ∃ a, xm_hd 140 3 x = some a ∧ Q (.inl (some (zI a.toInt))) M1 true 1)) : zT 140 (0, [some (zR 0 0), some (zR 31 0), none], [], M, true) Q := by
  refine zT.it 3 (t := (3, [some (zR 0 0), some (zR 31 0), none], [zR 0 0, zI 0, zR 31 0], M, true)) rfl ?_
  refine zT.callh (m := 139) (as := [zR 0 0]) (M := M) (L := [some (zR 0 0), some (zR 31 0), none]) (st := [zI 0, zR 31 0]) (pn := 6) (cl := true) rfl ?_
  refine zX.mono h (fun v M1 c h => ?_) (fun _ _ h => h)
  obtain ⟨r1, e1, h⟩ := h; subst e1; replace h := h (true && c)
  generalize (true && c) = cl1 at h ⊢
  show zT 140 (6, [some (zR 0 0), some (zR 31 0), none], [zI r1, zI 0, zR 31 0], M1, cl1) _
  refine zT.chk (p := zr r1) (t := (7, [some (zR 0 0), some (zR 31 0), none], [zJ r1, zI 0, zR 31 0], M1, cl1)) rfl h.1 ?_
  replace h := h.2
  refine zT.chk (t := (8, [some (zR 0 0), some (zR 31 0), none], [], (z_wl M1 31 0 0 r1), false)) rfl (by first | decide | (dsimp only; decide)) ?_
  refine zT.it 2 (t := (18, [some (zR 0 0), some (zR 31 0), none], [zI 0], (z_wl M1 31 0 0 r1), false)) rfl ?_
  exact zT.ret (v := some (zI 0)) rfl (by first | exact trivial | decide) h
theorem g141_0 {M : zM} {Q : zQ} (h : zF 133 [zR 18 0] M (fun v M1 => ∃ r1 : Int, v = some (zI r1) ∧ ∀ cl1 : Bool, (zr (M1.1 18 0 26)) ∧ ((¬ (M1.1 18 0 26) = 0 → Q (.inl (some (zI 0))) (z_w M1 18 0 1 1) false 0) ∧ ((M1.1 18 0 26) = 0 → (zr (M1.1 18 0 27)) ∧ ((¬ (M1.1 18 0 27) = 0 → (z_wi ((4 * r1) + 3) 8) ∧ ((zr (M1.1 30 0 (((4 * r1) + 3).toNat))) ∧ ((¬ (M1.1 30 0 (((4 * r1) + 3).toNat)) = 0 → (z_wi ((4 * r1) + 0) 8) ∧ ((z_wi ((4 * r1) + 1) 8) ∧ ((z_wi ((4 * r1) + 2) 8) ∧ ((z_wi ((4 * r1) + 3) 8) ∧ (Q (.inl (some (zI (M1.1 30 0 (((4 * r1) + 3).toNat))))) (z_w (z_w (z_w (z_w (z_w (z_w (z_w (z_w M1 18 0 1 0) 18 0 27 0) 23 0 0 (M1.1 30 0 (((4 * r1) + 0).toNat))) 24 0 0 (M1.1 30 0 (((4 * r1) + 0).toNat))) 23 0 1 (M1.1 30 0 (((4 * r1) + 1).toNat))) 24 0 1 (M1.1 30 0 (((4 * r1) + 1).toNat))) 23 0 2 (M1.1 30 0 (((4 * r1) + 2).toNat))) 24 0 2 (M1.1 30 0 (((4 * r1) + 2).toNat))) false 0))))) ∧ ((M1.1 30 0 (((4 * r1) + 3).toNat)) = 0 → Q (.inl (some (zI 0))) (z_w M1 18 0 1 2) false 0)))) ∧ ((M1.1 18 0 27) = 0 → Q (.inl (some (zI 0))) (z_w M1 18 0 1 1) false 0)))))) : zT 141 (0, [some (zR 18 0), none, none], [], M, true) Q := by
  refine zT.it 1 (t := (1, [some (zR 18 0), none, none], [zR 18 0], M, true)) rfl ?_
  refine zT.call (m := 133) (as := [zR 18 0]) (M := M) (L := [some (zR 18 0), none, none]) (st := []) (pn := 4) (cl := true) rfl ?_
  refine zF.mono h (fun v M1 h cl1 => ?_)
  obtain ⟨r1, e1, h⟩ := h; subst e1; replace h := h cl1
  show zT 141 (4, [some (zR 18 0), none, none], [zI r1], M1, cl1) _
  refine zT.it 4 (t := (10, [some (zR 18 0), some (zI r1), none], [zI (M1.1 18 0 26), zR 18 0], M1, cl1)) rfl ?_
  refine zT.br (g := zr (M1.1 18 0 26)) (p := ¬ (M1.1 18 0 26) = 0) (t := (20, [some (zR 18 0), some (zI r1), none], [zR 18 0], M1, cl1)) (u := (13, [some (zR 18 0), some (zI r1), none], [zR 18 0], M1, cl1)) rfl h.1 (fun c => ?_) (fun c => ?_)
  · replace h := h.2.1 c
    refine zT.it 5 (t := (49, [some (zR 18 0), some (zI r1), none], [zI 1], (z_w M1 18 0 1 1), false)) rfl ?_
    refine zT.br (g := zr 1) (p := 1 ≤ 0) (t := (54, [some (zR 18 0), some (zI r1), none], [], (z_w M1 18 0 1 1), false)) (u := (52, [some (zR 18 0), some (zI r1), none], [], (z_w M1 18 0 1 1), false)) rfl (by decide) (fun c => absurd c (by decide)) (fun c => ?_)
    refine zT.it 1 (t := (53, [some (zR 18 0), some (zI r1), none], [zI 0], (z_w M1 18 0 1 1), false)) rfl ?_
    exact zT.ret (v := some (zI 0)) rfl (by first | exact trivial | decide) h
  · replace h := h.2.2 (Decidable.not_not.1 c)
    refine zT.it 2 (t := (17, [some (zR 18 0), some (zI r1), none], [zI (M1.1 18 0 27), zR 18 0], M1, cl1)) rfl ?_
    refine zT.br (g := zr (M1.1 18 0 27)) (p := ¬ (M1.1 18 0 27) = 0) (t := (24, [some (zR 18 0), some (zI r1), none], [zR 18 0], M1, cl1)) (u := (20, [some (zR 18 0), some (zI r1), none], [zR 18 0], M1, cl1)) rfl h.1 (fun c => ?_) (fun c => ?_)
    · replace h := h.2.1 c
      refine zT.it 7 (t := (33, [some (zR 18 0), some (zI r1), none], [zI ((4 * r1) + 3), zR 30 0, zR 18 0], M1, cl1)) rfl ?_
      refine zT.chk (p := z_wi ((4 * r1) + 3) 8) (t := (34, [some (zR 18 0), some (zI r1), none], [zI (M1.1 30 0 (((4 * r1) + 3).toNat)), zR 18 0], M1, cl1)) rfl h.1 ?_
      replace h := h.2
      refine zT.br (g := zr (M1.1 30 0 (((4 * r1) + 3).toNat))) (p := ¬ (M1.1 30 0 (((4 * r1) + 3).toNat)) = 0) (t := (41, [some (zR 18 0), some (zI r1), none], [zR 18 0], M1, cl1)) (u := (37, [some (zR 18 0), some (zI r1), none], [zR 18 0], M1, cl1)) rfl h.1 (fun c => ?_) (fun c => ?_)
      · replace h := h.2.1 c
        refine zT.it 4 (t := (49, [some (zR 18 0), some (zI r1), none], [zI 0], (z_w M1 18 0 1 0), false)) rfl ?_
        refine zT.br (g := zr 0) (p := 0 ≤ 0) (t := (54, [some (zR 18 0), some (zI r1), none], [], (z_w M1 18 0 1 0), false)) (u := (52, [some (zR 18 0), some (zI r1), none], [], (z_w M1 18 0 1 0), false)) rfl (by decide) (fun c => ?_) (fun c => absurd (by decide) c)
        refine zT.it 2 (t := (56, [some (zR 18 0), some (zI r1), none], [zI 0, zR 18 0], (z_w M1 18 0 1 0), false)) rfl ?_
        refine zT.chk (t := (59, [some (zR 18 0), some (zI r1), none], [], (z_w (z_w M1 18 0 1 0) 18 0 27 0), false)) rfl (by first | decide | (dsimp only; decide)) ?_
        refine zT.it 4 (t := (63, [some (zR 18 0), some (zI r1), some (zI 0)], [zI 3, zI 0], (z_w (z_w M1 18 0 1 0) 18 0 27 0), false)) rfl ?_
        refine zT.br (g := zr 0 ∧ zr 3) (p := 3 ≤ 0) (t := (100, [some (zR 18 0), some (zI r1), some (zI 0)], [], (z_w (z_w M1 18 0 1 0) 18 0 27 0), false)) (u := (66, [some (zR 18 0), some (zI r1), some (zI 0)], [], (z_w (z_w M1 18 0 1 0) 18 0 27 0), false)) rfl (by decide) (fun c => absurd c (by decide)) (fun c => ?_)
        refine zT.it 10 (t := (80, [some (zR 18 0), some (zI r1), some (zI 0)], [zI ((4 * r1) + 0), zR 30 0, zI 0, zR 23 0], (z_w (z_w M1 18 0 1 0) 18 0 27 0), false)) rfl ?_
        refine zT.chk (p := z_wi ((4 * r1) + 0) 8) (t := (81, [some (zR 18 0), some (zI r1), some (zI 0)], [zI (M1.1 30 0 (((4 * r1) + 0).toNat)), zI 0, zR 23 0], (z_w (z_w M1 18 0 1 0) 18 0 27 0), false)) rfl h.1 ?_
        replace h := h.2
        refine zT.chk (t := (82, [some (zR 18 0), some (zI r1), some (zI 0)], [], (z_w (z_w (z_w M1 18 0 1 0) 18 0 27 0) 23 0 0 (M1.1 30 0 (((4 * r1) + 0).toNat))), false)) rfl (by first | decide | (dsimp only; decide)) ?_
        refine zT.it 6 (t := (92, [some (zR 18 0), some (zI r1), some (zI 0)], [zI 0, zR 23 0, zI 0, zR 24 0], (z_w (z_w (z_w M1 18 0 1 0) 18 0 27 0) 23 0 0 (M1.1 30 0 (((4 * r1) + 0).toNat))), false)) rfl ?_
        refine zT.chk (t := (93, [some (zR 18 0), some (zI r1), some (zI 0)], [zI (M1.1 30 0 (((4 * r1) + 0).toNat)), zI 0, zR 24 0], (z_w (z_w (z_w M1 18 0 1 0) 18 0 27 0) 23 0 0 (M1.1 30 0 (((4 * r1) + 0).toNat))), false)) rfl (by first | decide | (dsimp only; decide)) ?_
        refine zT.chk (t := (94, [some (zR 18 0), some (zI r1), some (zI 0)], [], (z_w (z_w (z_w (z_w M1 18 0 1 0) 18 0 27 0) 23 0 0 (M1.1 30 0 (((4 * r1) + 0).toNat))) 24 0 0 (M1.1 30 0 (((4 * r1) + 0).toNat))), false)) rfl (by first | decide | (dsimp only; decide)) ?_
        refine zT.it 4 (t := (63, [some (zR 18 0), some (zI r1), some (zI 1)], [zI 3, zI 1], (z_w (z_w (z_w (z_w M1 18 0 1 0) 18 0 27 0) 23 0 0 (M1.1 30 0 (((4 * r1) + 0).toNat))) 24 0 0 (M1.1 30 0 (((4 * r1) + 0).toNat))), false)) rfl ?_
        refine zT.br (g := zr 1 ∧ zr 3) (p := 3 ≤ 1) (t := (100, [some (zR 18 0), some (zI r1), some (zI 1)], [], (z_w (z_w (z_w (z_w M1 18 0 1 0) 18 0 27 0) 23 0 0 (M1.1 30 0 (((4 * r1) + 0).toNat))) 24 0 0 (M1.1 30 0 (((4 * r1) + 0).toNat))), false)) (u := (66, [some (zR 18 0), some (zI r1), some (zI 1)], [], (z_w (z_w (z_w (z_w M1 18 0 1 0) 18 0 27 0) 23 0 0 (M1.1 30 0 (((4 * r1) + 0).toNat))) 24 0 0 (M1.1 30 0 (((4 * r1) + 0).toNat))), false)) rfl (by decide) (fun c => absurd c (by decide)) (fun c => ?_)
        refine zT.it 10 (t := (80, [some (zR 18 0), some (zI r1), some (zI 1)], [zI ((4 * r1) + 1), zR 30 0, zI 1, zR 23 0], (z_w (z_w (z_w (z_w M1 18 0 1 0) 18 0 27 0) 23 0 0 (M1.1 30 0 (((4 * r1) + 0).toNat))) 24 0 0 (M1.1 30 0 (((4 * r1) + 0).toNat))), false)) rfl ?_
        refine zT.chk (p := z_wi ((4 * r1) + 1) 8) (t := (81, [some (zR 18 0), some (zI r1), some (zI 1)], [zI (M1.1 30 0 (((4 * r1) + 1).toNat)), zI 1, zR 23 0], (z_w (z_w (z_w (z_w M1 18 0 1 0) 18 0 27 0) 23 0 0 (M1.1 30 0 (((4 * r1) + 0).toNat))) 24 0 0 (M1.1 30 0 (((4 * r1) + 0).toNat))), false)) rfl h.1 ?_
        replace h := h.2
        refine zT.chk (t := (82, [some (zR 18 0), some (zI r1), some (zI 1)], [], (z_w (z_w (z_w (z_w (z_w M1 18 0 1 0) 18 0 27 0) 23 0 0 (M1.1 30 0 (((4 * r1) + 0).toNat))) 24 0 0 (M1.1 30 0 (((4 * r1) + 0).toNat))) 23 0 1 (M1.1 30 0 (((4 * r1) + 1).toNat))), false)) rfl (by first | decide | (dsimp only; decide)) ?_
        refine zT.it 6 (t := (92, [some (zR 18 0), some (zI r1), some (zI 1)], [zI 1, zR 23 0, zI 1, zR 24 0], (z_w (z_w (z_w (z_w (z_w M1 18 0 1 0) 18 0 27 0) 23 0 0 (M1.1 30 0 (((4 * r1) + 0).toNat))) 24 0 0 (M1.1 30 0 (((4 * r1) + 0).toNat))) 23 0 1 (M1.1 30 0 (((4 * r1) + 1).toNat))), false)) rfl ?_
        refine zT.chk (t := (93, [some (zR 18 0), some (zI r1), some (zI 1)], [zI (M1.1 30 0 (((4 * r1) + 1).toNat)), zI 1, zR 24 0], (z_w (z_w (z_w (z_w (z_w M1 18 0 1 0) 18 0 27 0) 23 0 0 (M1.1 30 0 (((4 * r1) + 0).toNat))) 24 0 0 (M1.1 30 0 (((4 * r1) + 0).toNat))) 23 0 1 (M1.1 30 0 (((4 * r1) + 1).toNat))), false)) rfl (by first | decide | (dsimp only; decide)) ?_
        refine zT.chk (t := (94, [some (zR 18 0), some (zI r1), some (zI 1)], [], (z_w (z_w (z_w (z_w (z_w (z_w M1 18 0 1 0) 18 0 27 0) 23 0 0 (M1.1 30 0 (((4 * r1) + 0).toNat))) 24 0 0 (M1.1 30 0 (((4 * r1) + 0).toNat))) 23 0 1 (M1.1 30 0 (((4 * r1) + 1).toNat))) 24 0 1 (M1.1 30 0 (((4 * r1) + 1).toNat))), false)) rfl (by first | decide | (dsimp only; decide)) ?_
        refine zT.it 4 (t := (63, [some (zR 18 0), some (zI r1), some (zI 2)], [zI 3, zI 2], (z_w (z_w (z_w (z_w (z_w (z_w M1 18 0 1 0) 18 0 27 0) 23 0 0 (M1.1 30 0 (((4 * r1) + 0).toNat))) 24 0 0 (M1.1 30 0 (((4 * r1) + 0).toNat))) 23 0 1 (M1.1 30 0 (((4 * r1) + 1).toNat))) 24 0 1 (M1.1 30 0 (((4 * r1) + 1).toNat))), false)) rfl ?_
        refine zT.br (g := zr 2 ∧ zr 3) (p := 3 ≤ 2) (t := (100, [some (zR 18 0), some (zI r1), some (zI 2)], [], (z_w (z_w (z_w (z_w (z_w (z_w M1 18 0 1 0) 18 0 27 0) 23 0 0 (M1.1 30 0 (((4 * r1) + 0).toNat))) 24 0 0 (M1.1 30 0 (((4 * r1) + 0).toNat))) 23 0 1 (M1.1 30 0 (((4 * r1) + 1).toNat))) 24 0 1 (M1.1 30 0 (((4 * r1) + 1).toNat))), false)) (u := (66, [some (zR 18 0), some (zI r1), some (zI 2)], [], (z_w (z_w (z_w (z_w (z_w (z_w M1 18 0 1 0) 18 0 27 0) 23 0 0 (M1.1 30 0 (((4 * r1) + 0).toNat))) 24 0 0 (M1.1 30 0 (((4 * r1) + 0).toNat))) 23 0 1 (M1.1 30 0 (((4 * r1) + 1).toNat))) 24 0 1 (M1.1 30 0 (((4 * r1) + 1).toNat))), false)) rfl (by decide) (fun c => absurd c (by decide)) (fun c => ?_)
        refine zT.it 10 (t := (80, [some (zR 18 0), some (zI r1), some (zI 2)], [zI ((4 * r1) + 2), zR 30 0, zI 2, zR 23 0], (z_w (z_w (z_w (z_w (z_w (z_w M1 18 0 1 0) 18 0 27 0) 23 0 0 (M1.1 30 0 (((4 * r1) + 0).toNat))) 24 0 0 (M1.1 30 0 (((4 * r1) + 0).toNat))) 23 0 1 (M1.1 30 0 (((4 * r1) + 1).toNat))) 24 0 1 (M1.1 30 0 (((4 * r1) + 1).toNat))), false)) rfl ?_
        refine zT.chk (p := z_wi ((4 * r1) + 2) 8) (t := (81, [some (zR 18 0), some (zI r1), some (zI 2)], [zI (M1.1 30 0 (((4 * r1) + 2).toNat)), zI 2, zR 23 0], (z_w (z_w (z_w (z_w (z_w (z_w M1 18 0 1 0) 18 0 27 0) 23 0 0 (M1.1 30 0 (((4 * r1) + 0).toNat))) 24 0 0 (M1.1 30 0 (((4 * r1) + 0).toNat))) 23 0 1 (M1.1 30 0 (((4 * r1) + 1).toNat))) 24 0 1 (M1.1 30 0 (((4 * r1) + 1).toNat))), false)) rfl h.1 ?_
        replace h := h.2
        refine zT.chk (t := (82, [some (zR 18 0), some (zI r1), some (zI 2)], [], (z_w (z_w (z_w (z_w (z_w (z_w (z_w M1 18 0 1 0) 18 0 27 0) 23 0 0 (M1.1 30 0 (((4 * r1) + 0).toNat))) 24 0 0 (M1.1 30 0 (((4 * r1) + 0).toNat))) 23 0 1 (M1.1 30 0 (((4 * r1) + 1).toNat))) 24 0 1 (M1.1 30 0 (((4 * r1) + 1).toNat))) 23 0 2 (M1.1 30 0 (((4 * r1) + 2).toNat))), false)) rfl (by first | decide | (dsimp only; decide)) ?_
        refine zT.it 6 (t := (92, [some (zR 18 0), some (zI r1), some (zI 2)], [zI 2, zR 23 0, zI 2, zR 24 0], (z_w (z_w (z_w (z_w (z_w (z_w (z_w M1 18 0 1 0) 18 0 27 0) 23 0 0 (M1.1 30 0 (((4 * r1) + 0).toNat))) 24 0 0 (M1.1 30 0 (((4 * r1) + 0).toNat))) 23 0 1 (M1.1 30 0 (((4 * r1) + 1).toNat))) 24 0 1 (M1.1 30 0 (((4 * r1) + 1).toNat))) 23 0 2 (M1.1 30 0 (((4 * r1) + 2).toNat))), false)) rfl ?_
        refine zT.chk (t := (93, [some (zR 18 0), some (zI r1), some (zI 2)], [zI (M1.1 30 0 (((4 * r1) + 2).toNat)), zI 2, zR 24 0], (z_w (z_w (z_w (z_w (z_w (z_w (z_w M1 18 0 1 0) 18 0 27 0) 23 0 0 (M1.1 30 0 (((4 * r1) + 0).toNat))) 24 0 0 (M1.1 30 0 (((4 * r1) + 0).toNat))) 23 0 1 (M1.1 30 0 (((4 * r1) + 1).toNat))) 24 0 1 (M1.1 30 0 (((4 * r1) + 1).toNat))) 23 0 2 (M1.1 30 0 (((4 * r1) + 2).toNat))), false)) rfl (by first | decide | (dsimp only; decide)) ?_
        refine zT.chk (t := (94, [some (zR 18 0), some (zI r1), some (zI 2)], [], (z_w (z_w (z_w (z_w (z_w (z_w (z_w (z_w M1 18 0 1 0) 18 0 27 0) 23 0 0 (M1.1 30 0 (((4 * r1) + 0).toNat))) 24 0 0 (M1.1 30 0 (((4 * r1) + 0).toNat))) 23 0 1 (M1.1 30 0 (((4 * r1) + 1).toNat))) 24 0 1 (M1.1 30 0 (((4 * r1) + 1).toNat))) 23 0 2 (M1.1 30 0 (((4 * r1) + 2).toNat))) 24 0 2 (M1.1 30 0 (((4 * r1) + 2).toNat))), false)) rfl (by first | decide | (dsimp only; decide)) ?_
        refine zT.it 4 (t := (63, [some (zR 18 0), some (zI r1), some (zI 3)], [zI 3, zI 3], (z_w (z_w (z_w (z_w (z_w (z_w (z_w (z_w M1 18 0 1 0) 18 0 27 0) 23 0 0 (M1.1 30 0 (((4 * r1) + 0).toNat))) 24 0 0 (M1.1 30 0 (((4 * r1) + 0).toNat))) 23 0 1 (M1.1 30 0 (((4 * r1) + 1).toNat))) 24 0 1 (M1.1 30 0 (((4 * r1) + 1).toNat))) 23 0 2 (M1.1 30 0 (((4 * r1) + 2).toNat))) 24 0 2 (M1.1 30 0 (((4 * r1) + 2).toNat))), false)) rfl ?_
        refine zT.br (g := zr 3 ∧ zr 3) (p := 3 ≤ 3) (t := (100, [some (zR 18 0), some (zI r1), some (zI 3)], [], (z_w (z_w (z_w (z_w (z_w (z_w (z_w (z_w M1 18 0 1 0) 18 0 27 0) 23 0 0 (M1.1 30 0 (((4 * r1) + 0).toNat))) 24 0 0 (M1.1 30 0 (((4 * r1) + 0).toNat))) 23 0 1 (M1.1 30 0 (((4 * r1) + 1).toNat))) 24 0 1 (M1.1 30 0 (((4 * r1) + 1).toNat))) 23 0 2 (M1.1 30 0 (((4 * r1) + 2).toNat))) 24 0 2 (M1.1 30 0 (((4 * r1) + 2).toNat))), false)) (u := (66, [some (zR 18 0), some (zI r1), some (zI 3)], [], (z_w (z_w (z_w (z_w (z_w (z_w (z_w (z_w M1 18 0 1 0) 18 0 27 0) 23 0 0 (M1.1 30 0 (((4 * r1) + 0).toNat))) 24 0 0 (M1.1 30 0 (((4 * r1) + 0).toNat))) 23 0 1 (M1.1 30 0 (((4 * r1) + 1).toNat))) 24 0 1 (M1.1 30 0 (((4 * r1) + 1).toNat))) 23 0 2 (M1.1 30 0 (((4 * r1) + 2).toNat))) 24 0 2 (M1.1 30 0 (((4 * r1) + 2).toNat))), false)) rfl (by decide) (fun c => ?_) (fun c => absurd (by decide) c)
        refine zT.it 7 (t := (109, [some (zR 18 0), some (zI r1), some (zI 3)], [zI ((4 * r1) + 3), zR 30 0], (z_w (z_w (z_w (z_w (z_w (z_w (z_w (z_w M1 18 0 1 0) 18 0 27 0) 23 0 0 (M1.1 30 0 (((4 * r1) + 0).toNat))) 24 0 0 (M1.1 30 0 (((4 * r1) + 0).toNat))) 23 0 1 (M1.1 30 0 (((4 * r1) + 1).toNat))) 24 0 1 (M1.1 30 0 (((4 * r1) + 1).toNat))) 23 0 2 (M1.1 30 0 (((4 * r1) + 2).toNat))) 24 0 2 (M1.1 30 0 (((4 * r1) + 2).toNat))), false)) rfl ?_
        refine zT.chk (p := z_wi ((4 * r1) + 3) 8) (t := (110, [some (zR 18 0), some (zI r1), some (zI 3)], [zI (M1.1 30 0 (((4 * r1) + 3).toNat))], (z_w (z_w (z_w (z_w (z_w (z_w (z_w (z_w M1 18 0 1 0) 18 0 27 0) 23 0 0 (M1.1 30 0 (((4 * r1) + 0).toNat))) 24 0 0 (M1.1 30 0 (((4 * r1) + 0).toNat))) 23 0 1 (M1.1 30 0 (((4 * r1) + 1).toNat))) 24 0 1 (M1.1 30 0 (((4 * r1) + 1).toNat))) 23 0 2 (M1.1 30 0 (((4 * r1) + 2).toNat))) 24 0 2 (M1.1 30 0 (((4 * r1) + 2).toNat))), false)) rfl h.1 ?_
        replace h := h.2
        exact zT.ret (v := some (zI (M1.1 30 0 (((4 * r1) + 3).toNat)))) rfl (by first | exact trivial | decide) h
      · replace h := h.2.2 (Decidable.not_not.1 c)
        refine zT.it 5 (t := (49, [some (zR 18 0), some (zI r1), none], [zI 2], (z_w M1 18 0 1 2), false)) rfl ?_
        refine zT.br (g := zr 2) (p := 2 ≤ 0) (t := (54, [some (zR 18 0), some (zI r1), none], [], (z_w M1 18 0 1 2), false)) (u := (52, [some (zR 18 0), some (zI r1), none], [], (z_w M1 18 0 1 2), false)) rfl (by decide) (fun c => absurd c (by decide)) (fun c => ?_)
        refine zT.it 1 (t := (53, [some (zR 18 0), some (zI r1), none], [zI 0], (z_w M1 18 0 1 2), false)) rfl ?_
        exact zT.ret (v := some (zI 0)) rfl (by first | exact trivial | decide) h
    · replace h := h.2.2 (Decidable.not_not.1 c)
      refine zT.it 5 (t := (49, [some (zR 18 0), some (zI r1), none], [zI 1], (z_w M1 18 0 1 1), false)) rfl ?_
      refine zT.br (g := zr 1) (p := 1 ≤ 0) (t := (54, [some (zR 18 0), some (zI r1), none], [], (z_w M1 18 0 1 1), false)) (u := (52, [some (zR 18 0), some (zI r1), none], [], (z_w M1 18 0 1 1), false)) rfl (by decide) (fun c => absurd c (by decide)) (fun c => ?_)
      refine zT.it 1 (t := (53, [some (zR 18 0), some (zI r1), none], [zI 0], (z_w M1 18 0 1 1), false)) rfl ?_
      exact zT.ret (v := some (zI 0)) rfl (by first | exact trivial | decide) h
theorem g142_0 {a1 : Int} {a2 : Int} {M : zM} {Q : zQ} (h : (zr a1) ∧ ((a1 < 0 → Q (.inr 2) M true 1) ∧ (¬ (a1 < 0) → (zr a1 ∧ zr 2) ∧ ((2 ≤ a1 → Q (.inr 2) M true 1) ∧ (¬ (2 ≤ a1) → (zr a2) ∧ ((a2 < 0 → Q (.inr 2) M true 1) ∧ (¬ (a2 < 0) → (zr a2 ∧ zr 4) ∧ ((a2 < 4 → zX 128 [zR 12 0, zI a1, zI a2] M (fun v M1 c => c = true ∧ ∃ r1 : Int, v = some (zI r1) ∧ Q (.inl (some (zI r1))) M1 true 0) (fun x M1 => Q (.inr x) M1 true 1)) ∧ (¬ (a2 < 4) → Q (.inr 2) M true 1))))))))) : zT 142 (0, [some (zR 0 0), some (zI a1), some (zI a2)], [], M, true) Q := by
  refine zT.it 1 (t := (1, [some (zR 0 0), some (zI a1), some (zI a2)], [zI a1], M, true)) rfl ?_
  refine zT.br (g := zr a1) (p := a1 < 0) (t := (18, [some (zR 0 0), some (zI a1), some (zI a2)], [], M, true)) (u := (4, [some (zR 0 0), some (zI a1), some (zI a2)], [], M, true)) rfl h.1 (fun c => ?_) (fun c => ?_)
  · replace h := h.2.1 c
    exact zT.thr (x := 2) rfl h
  · replace h := h.2.2 c
    refine zT.it 2 (t := (6, [some (zR 0 0), some (zI a1), some (zI a2)], [zI 2, zI a1], M, true)) rfl ?_
    refine zT.br (g := zr a1 ∧ zr 2) (p := 2 ≤ a1) (t := (18, [some (zR 0 0), some (zI a1), some (zI a2)], [], M, true)) (u := (9, [some (zR 0 0), some (zI a1), some (zI a2)], [], M, true)) rfl h.1 (fun c => ?_) (fun c => ?_)
    · replace h := h.2.1 c
      exact zT.thr (x := 2) rfl h
    · replace h := h.2.2 c
      refine zT.it 1 (t := (10, [some (zR 0 0), some (zI a1), some (zI a2)], [zI a2], M, true)) rfl ?_
      refine zT.br (g := zr a2) (p := a2 < 0) (t := (18, [some (zR 0 0), some (zI a1), some (zI a2)], [], M, true)) (u := (13, [some (zR 0 0), some (zI a1), some (zI a2)], [], M, true)) rfl h.1 (fun c => ?_) (fun c => ?_)
      · replace h := h.2.1 c
        exact zT.thr (x := 2) rfl h
      · replace h := h.2.2 c
        refine zT.it 2 (t := (15, [some (zR 0 0), some (zI a1), some (zI a2)], [zI 4, zI a2], M, true)) rfl ?_
        refine zT.br (g := zr a2 ∧ zr 4) (p := a2 < 4) (t := (28, [some (zR 0 0), some (zI a1), some (zI a2)], [], M, true)) (u := (18, [some (zR 0 0), some (zI a1), some (zI a2)], [], M, true)) rfl h.1 (fun c => ?_) (fun c => ?_)
        · replace h := h.2.1 c
          refine zT.it 4 (t := (34, [some (zR 0 0), some (zI a1), some (zI a2)], [zI a2, zI a1, zR 12 0], M, true)) rfl ?_
          refine zT.callx (m := 128) (as := [zR 12 0, zI a1, zI a2]) (M := M) (L := [some (zR 0 0), some (zI a1), some (zI a2)]) (st := []) (pn := 37) (cl := true) rfl rfl rfl ?_
          refine zX.mono h (fun v M1 c h => ?_) (fun _ _ h => ⟨rfl, h⟩)
          obtain ⟨hc, r1, e1, h⟩ := h; subst hc; subst e1
          show zT 142 (37, [some (zR 0 0), some (zI a1), some (zI a2)], [zI r1], M1, true) _
          exact zT.ret (v := some (zI r1)) rfl (by first | exact trivial | decide) h
        · replace h := h.2.2 c
          exact zT.thr (x := 2) rfl h
theorem g143_0 {a2 : Int} {a3 : Int} {M : zM} {Q : zQ} (h : zX 142 [zR 0 0, zI a2, zI a3] M (fun v M1 c => ∃ r1 : Int, v = some (zI r1) ∧ ∀ cl1 : Bool, (zr r1) ∧ (Q (.inl (some (zI 0))) (z_wl M1 31 0 0 r1) false 0)) (fun x M1 => ∃ a, xm_hd 143 5 x = some a ∧ Q (.inl (some (zI a.toInt))) M1 true 1)) : zT 143 (0, [some (zR 0 0), some (zI a2), some (zI a3), some (zR 31 0), none], [], M, true) Q := by
  refine zT.it 5 (t := (5, [some (zR 0 0), some (zI a2), some (zI a3), some (zR 31 0), none], [zI a3, zI a2, zR 0 0, zI 0, zR 31 0], M, true)) rfl ?_
  refine zT.callh (m := 142) (as := [zR 0 0, zI a2, zI a3]) (M := M) (L := [some (zR 0 0), some (zI a2), some (zI a3), some (zR 31 0), none]) (st := [zI 0, zR 31 0]) (pn := 8) (cl := true) rfl ?_
  refine zX.mono h (fun v M1 c h => ?_) (fun _ _ h => h)
  obtain ⟨r1, e1, h⟩ := h; subst e1; replace h := h (true && c)
  generalize (true && c) = cl1 at h ⊢
  show zT 143 (8, [some (zR 0 0), some (zI a2), some (zI a3), some (zR 31 0), none], [zI r1, zI 0, zR 31 0], M1, cl1) _
  refine zT.chk (p := zr r1) (t := (9, [some (zR 0 0), some (zI a2), some (zI a3), some (zR 31 0), none], [zJ r1, zI 0, zR 31 0], M1, cl1)) rfl h.1 ?_
  replace h := h.2
  refine zT.chk (t := (10, [some (zR 0 0), some (zI a2), some (zI a3), some (zR 31 0), none], [], (z_wl M1 31 0 0 r1), false)) rfl (by first | decide | (dsimp only; decide)) ?_
  refine zT.it 2 (t := (18, [some (zR 0 0), some (zI a2), some (zI a3), some (zR 31 0), none], [zI 0], (z_wl M1 31 0 0 r1), false)) rfl ?_
  exact zT.ret (v := some (zI 0)) rfl (by first | exact trivial | decide) h
theorem g144_0 {a1 : Int} {a2 : Int} {M : zM} {Q : zQ} (h : (zr a1) ∧ ((a1 < 0 → Q (.inl (some (zI 0))) (z_w M 18 0 1 1) false 0) ∧ (¬ (a1 < 0) → (zr a1 ∧ zr 1) ∧ ((1 < a1 → Q (.inl (some (zI 0))) (z_w M 18 0 1 1) false 0) ∧ (¬ (1 < a1) → (zr a2) ∧ ((a2 < 0 → Q (.inl (some (zI 0))) (z_w M 18 0 1 1) false 0) ∧ (¬ (a2 < 0) → (zr a2 ∧ zr 3) ∧ ((a2 ≤ 3 → (z_wi ((4 * a1) + a2) 8) ∧ (Q (.inl (some (zI (M.1 30 0 (((4 * a1) + a2).toNat))))) (z_w M 18 0 1 0) false 0)) ∧ (¬ (a2 ≤ 3) → Q (.inl (some (zI 0))) (z_w M 18 0 1 1) false 0))))))))) : zT 144 (0, [some (zR 18 0), some (zI a1), some (zI a2)], [], M, true) Q := by
  refine zT.it 2 (t := (2, [some (zR 18 0), some (zI a1), some (zI a2)], [zI a1, zR 18 0], M, true)) rfl ?_
  refine zT.br (g := zr a1) (p := a1 < 0) (t := (19, [some (zR 18 0), some (zI a1), some (zI a2)], [zR 18 0], M, true)) (u := (5, [some (zR 18 0), some (zI a1), some (zI a2)], [zR 18 0], M, true)) rfl h.1 (fun c => ?_) (fun c => ?_)
  · replace h := h.2.1 c
    refine zT.it 5 (t := (31, [some (zR 18 0), some (zI a1), some (zI a2)], [zI 1], (z_w M 18 0 1 1), false)) rfl ?_
    refine zT.br (g := zr 1) (p := 1 ≤ 0) (t := (38, [some (zR 18 0), some (zI a1), some (zI a2)], [], (z_w M 18 0 1 1), false)) (u := (34, [some (zR 18 0), some (zI a1), some (zI a2)], [], (z_w M 18 0 1 1), false)) rfl (by decide) (fun c => absurd c (by decide)) (fun c => ?_)
    refine zT.it 2 (t := (48, [some (zR 18 0), some (zI a1), some (zI a2)], [zI 0], (z_w M 18 0 1 1), false)) rfl ?_
    exact zT.ret (v := some (zI 0)) rfl (by first | exact trivial | decide) h
  · replace h := h.2.2 c
    refine zT.it 2 (t := (7, [some (zR 18 0), some (zI a1), some (zI a2)], [zI 1, zI a1, zR 18 0], M, true)) rfl ?_
    refine zT.br (g := zr a1 ∧ zr 1) (p := 1 < a1) (t := (19, [some (zR 18 0), some (zI a1), some (zI a2)], [zR 18 0], M, true)) (u := (10, [some (zR 18 0), some (zI a1), some (zI a2)], [zR 18 0], M, true)) rfl h.1 (fun c => ?_) (fun c => ?_)
    · replace h := h.2.1 c
      refine zT.it 5 (t := (31, [some (zR 18 0), some (zI a1), some (zI a2)], [zI 1], (z_w M 18 0 1 1), false)) rfl ?_
      refine zT.br (g := zr 1) (p := 1 ≤ 0) (t := (38, [some (zR 18 0), some (zI a1), some (zI a2)], [], (z_w M 18 0 1 1), false)) (u := (34, [some (zR 18 0), some (zI a1), some (zI a2)], [], (z_w M 18 0 1 1), false)) rfl (by decide) (fun c => absurd c (by decide)) (fun c => ?_)
      refine zT.it 2 (t := (48, [some (zR 18 0), some (zI a1), some (zI a2)], [zI 0], (z_w M 18 0 1 1), false)) rfl ?_
      exact zT.ret (v := some (zI 0)) rfl (by first | exact trivial | decide) h
    · replace h := h.2.2 c
      refine zT.it 1 (t := (11, [some (zR 18 0), some (zI a1), some (zI a2)], [zI a2, zR 18 0], M, true)) rfl ?_
      refine zT.br (g := zr a2) (p := a2 < 0) (t := (19, [some (zR 18 0), some (zI a1), some (zI a2)], [zR 18 0], M, true)) (u := (14, [some (zR 18 0), some (zI a1), some (zI a2)], [zR 18 0], M, true)) rfl h.1 (fun c => ?_) (fun c => ?_)
      · replace h := h.2.1 c
        refine zT.it 5 (t := (31, [some (zR 18 0), some (zI a1), some (zI a2)], [zI 1], (z_w M 18 0 1 1), false)) rfl ?_
        refine zT.br (g := zr 1) (p := 1 ≤ 0) (t := (38, [some (zR 18 0), some (zI a1), some (zI a2)], [], (z_w M 18 0 1 1), false)) (u := (34, [some (zR 18 0), some (zI a1), some (zI a2)], [], (z_w M 18 0 1 1), false)) rfl (by decide) (fun c => absurd c (by decide)) (fun c => ?_)
        refine zT.it 2 (t := (48, [some (zR 18 0), some (zI a1), some (zI a2)], [zI 0], (z_w M 18 0 1 1), false)) rfl ?_
        exact zT.ret (v := some (zI 0)) rfl (by first | exact trivial | decide) h
      · replace h := h.2.2 c
        refine zT.it 2 (t := (16, [some (zR 18 0), some (zI a1), some (zI a2)], [zI 3, zI a2, zR 18 0], M, true)) rfl ?_
        refine zT.br (g := zr a2 ∧ zr 3) (p := a2 ≤ 3) (t := (23, [some (zR 18 0), some (zI a1), some (zI a2)], [zR 18 0], M, true)) (u := (19, [some (zR 18 0), some (zI a1), some (zI a2)], [zR 18 0], M, true)) rfl h.1 (fun c => ?_) (fun c => ?_)
        · replace h := h.2.1 c
          refine zT.it 4 (t := (31, [some (zR 18 0), some (zI a1), some (zI a2)], [zI 0], (z_w M 18 0 1 0), false)) rfl ?_
          refine zT.br (g := zr 0) (p := 0 ≤ 0) (t := (38, [some (zR 18 0), some (zI a1), some (zI a2)], [], (z_w M 18 0 1 0), false)) (u := (34, [some (zR 18 0), some (zI a1), some (zI a2)], [], (z_w M 18 0 1 0), false)) rfl (by decide) (fun c => ?_) (fun c => absurd (by decide) c)
          refine zT.it 7 (t := (47, [some (zR 18 0), some (zI a1), some (zI a2)], [zI ((4 * a1) + a2), zR 30 0], (z_w M 18 0 1 0), false)) rfl ?_
          refine zT.chk (p := z_wi ((4 * a1) + a2) 8) (t := (48, [some (zR 18 0), some (zI a1), some (zI a2)], [zI (M.1 30 0 (((4 * a1) + a2).toNat))], (z_w M 18 0 1 0), false)) rfl h.1 ?_
          replace h := h.2
          exact zT.ret (v := some (zI (M.1 30 0 (((4 * a1) + a2).toNat)))) rfl (by first | exact trivial | decide) h
        · replace h := h.2.2 c
          refine zT.it 5 (t := (31, [some (zR 18 0), some (zI a1), some (zI a2)], [zI 1], (z_w M 18 0 1 1), false)) rfl ?_
          refine zT.br (g := zr 1) (p := 1 ≤ 0) (t := (38, [some (zR 18 0), some (zI a1), some (zI a2)], [], (z_w M 18 0 1 1), false)) (u := (34, [some (zR 18 0), some (zI a1), some (zI a2)], [], (z_w M 18 0 1 1), false)) rfl (by decide) (fun c => absurd c (by decide)) (fun c => ?_)
          refine zT.it 2 (t := (48, [some (zR 18 0), some (zI a1), some (zI a2)], [zI 0], (z_w M 18 0 1 1), false)) rfl ?_
          exact zT.ret (v := some (zI 0)) rfl (by first | exact trivial | decide) h
theorem g145_33_32 {x4 : Int} {u5 : Option zV} {u6 : Option zV} {M : zM} {cl : Bool} {Q : zQ} (h : (zr x4 ∧ zr ((Int.ofNat M.2.2) - 3)) ∧ ((((Int.ofNat M.2.2) - 3) < x4 → Q (.inl (some (zI 1))) M cl 0) ∧ (¬ (((Int.ofNat M.2.2) - 3) < x4) → (z_wi x4 M.2.2) ∧ ((zr ((M.1 32 0 x4.toNat) % 32)) ∧ ((M.1 32 0 x4.toNat) % 32 = 0 → zT 145 (136, [some (zR 32 0), some (zR 0 0), some (zR 18 0), some (zR 31 0), some (zI x4), u5, u6], [], M, cl) Q) ∧ ((M.1 32 0 x4.toNat) % 32 = 1 → zT 145 (193, [some (zR 32 0), some (zR 0 0), some (zR 18 0), some (zR 31 0), some (zI x4), u5, u6], [], M, cl) Q) ∧ ((M.1 32 0 x4.toNat) % 32 = 2 → zT 145 (206, [some (zR 32 0), some (zR 0 0), some (zR 18 0), some (zR 31 0), some (zI x4), u5, u6], [], M, cl) Q) ∧ ((M.1 32 0 x4.toNat) % 32 = 3 → zT 145 (250, [some (zR 32 0), some (zR 0 0), some (zR 18 0), some (zR 31 0), some (zI x4), u5, u6], [], M, cl) Q) ∧ ((M.1 32 0 x4.toNat) % 32 = 4 → zT 145 (263, [some (zR 32 0), some (zR 0 0), some (zR 18 0), some (zR 31 0), some (zI x4), u5, u6], [], M, cl) Q) ∧ ((M.1 32 0 x4.toNat) % 32 = 5 → zT 145 (307, [some (zR 32 0), some (zR 0 0), some (zR 18 0), some (zR 31 0), some (zI x4), u5, u6], [], M, cl) Q) ∧ ((M.1 32 0 x4.toNat) % 32 = 6 → zT 145 (363, [some (zR 32 0), some (zR 0 0), some (zR 18 0), some (zR 31 0), some (zI x4), u5, u6], [], M, cl) Q) ∧ ((M.1 32 0 x4.toNat) % 32 = 7 → zT 145 (419, [some (zR 32 0), some (zR 0 0), some (zR 18 0), some (zR 31 0), some (zI x4), u5, u6], [], M, cl) Q) ∧ ((M.1 32 0 x4.toNat) % 32 = 8 → zT 145 (475, [some (zR 32 0), some (zR 0 0), some (zR 18 0), some (zR 31 0), some (zI x4), u5, u6], [], M, cl) Q) ∧ ((M.1 32 0 x4.toNat) % 32 = 9 → zT 145 (488, [some (zR 32 0), some (zR 0 0), some (zR 18 0), some (zR 31 0), some (zI x4), u5, u6], [], M, cl) Q) ∧ ((M.1 32 0 x4.toNat) % 32 = 10 → zT 145 (556, [some (zR 32 0), some (zR 0 0), some (zR 18 0), some (zR 31 0), some (zI x4), u5, u6], [], M, cl) Q) ∧ ((M.1 32 0 x4.toNat) % 32 = 11 → zT 145 (569, [some (zR 32 0), some (zR 0 0), some (zR 18 0), some (zR 31 0), some (zI x4), u5, u6], [], M, cl) Q) ∧ ((M.1 32 0 x4.toNat) % 32 = 12 → zT 145 (648, [some (zR 32 0), some (zR 0 0), some (zR 18 0), some (zR 31 0), some (zI x4), u5, u6], [], M, cl) Q) ∧ ((M.1 32 0 x4.toNat) % 32 = 13 → zT 145 (692, [some (zR 32 0), some (zR 0 0), some (zR 18 0), some (zR 31 0), some (zI x4), u5, u6], [], M, cl) Q) ∧ ((M.1 32 0 x4.toNat) % 32 = 14 → zT 145 (728, [some (zR 32 0), some (zR 0 0), some (zR 18 0), some (zR 31 0), some (zI x4), u5, u6], [], M, cl) Q) ∧ ((M.1 32 0 x4.toNat) % 32 = 15 → zT 145 (752, [some (zR 32 0), some (zR 0 0), some (zR 18 0), some (zR 31 0), some (zI x4), u5, u6], [], M, cl) Q) ∧ ((M.1 32 0 x4.toNat) % 32 = 16 → zT 145 (776, [some (zR 32 0), some (zR 0 0), some (zR 18 0), some (zR 31 0), some (zI x4), u5, u6], [], M, cl) Q) ∧ ((M.1 32 0 x4.toNat) % 32 = 17 → zT 145 (820, [some (zR 32 0), some (zR 0 0), some (zR 18 0), some (zR 31 0), some (zI x4), u5, u6], [], M, cl) Q) ∧ (¬ ((M.1 32 0 x4.toNat) % 32 = 0) → ¬ ((M.1 32 0 x4.toNat) % 32 = 1) → ¬ ((M.1 32 0 x4.toNat) % 32 = 2) → ¬ ((M.1 32 0 x4.toNat) % 32 = 3) → ¬ ((M.1 32 0 x4.toNat) % 32 = 4) → ¬ ((M.1 32 0 x4.toNat) % 32 = 5) → ¬ ((M.1 32 0 x4.toNat) % 32 = 6) → ¬ ((M.1 32 0 x4.toNat) % 32 = 7) → ¬ ((M.1 32 0 x4.toNat) % 32 = 8) → ¬ ((M.1 32 0 x4.toNat) % 32 = 9) → ¬ ((M.1 32 0 x4.toNat) % 32 = 10) → ¬ ((M.1 32 0 x4.toNat) % 32 = 11) → ¬ ((M.1 32 0 x4.toNat) % 32 = 12) → ¬ ((M.1 32 0 x4.toNat) % 32 = 13) → ¬ ((M.1 32 0 x4.toNat) % 32 = 14) → ¬ ((M.1 32 0 x4.toNat) % 32 = 15) → ¬ ((M.1 32 0 x4.toNat) % 32 = 16) → ¬ ((M.1 32 0 x4.toNat) % 32 = 17) → zT 145 (33, [some (zR 32 0), some (zR 0 0), some (zR 18 0), some (zR 31 0), some (zI (x4 + 3)), u5, u6], [], M, cl) Q))))) : zT 145 (33, [some (zR 32 0), some (zR 0 0), some (zR 18 0), some (zR 31 0), some (zI x4), u5, u6], [], M, cl) Q := by
  refine zT.it 5 (t := (39, [some (zR 32 0), some (zR 0 0), some (zR 18 0), some (zR 31 0), some (zI x4), u5, u6], [zI ((Int.ofNat M.2.2) - 3), zI x4], M, cl)) rfl ?_
  refine zT.br (g := zr x4 ∧ zr ((Int.ofNat M.2.2) - 3)) (p := ((Int.ofNat M.2.2) - 3) < x4) (t := (894, [some (zR 32 0), some (zR 0 0), some (zR 18 0), some (zR 31 0), some (zI x4), u5, u6], [], M, cl)) (u := (42, [some (zR 32 0), some (zR 0 0), some (zR 18 0), some (zR 31 0), some (zI x4), u5, u6], [], M, cl)) rfl h.1 (fun c => ?_) (fun c => ?_)
  · replace h := h.2.1 c
    refine zT.it 1 (t := (895, [some (zR 32 0), some (zR 0 0), some (zR 18 0), some (zR 31 0), some (zI x4), u5, u6], [zI 1], M, cl)) rfl ?_
    exact zT.ret (v := some (zI 1)) rfl (by first | exact trivial | decide) h
  · replace h := h.2.2 c
    refine zT.it 2 (t := (45, [some (zR 32 0), some (zR 0 0), some (zR 18 0), some (zR 31 0), some (zI x4), u5, u6], [zI x4, zR 32 0], M, cl)) rfl ?_
    refine zT.chk (p := z_wi x4 M.2.2) (t := (46, [some (zR 32 0), some (zR 0 0), some (zR 18 0), some (zR 31 0), some (zI x4), u5, u6], [zI (M.1 32 0 x4.toNat)], M, cl)) rfl h.1 ?_
    replace h := h.2
    refine zT.it 1 (t := (48, [some (zR 32 0), some (zR 0 0), some (zR 18 0), some (zR 31 0), some (zI x4), u5, u6], [zI 31, zI (M.1 32 0 x4.toNat)], M, cl)) rfl ?_
    refine zT.chk (t := (49, [some (zR 32 0), some (zR 0 0), some (zR 18 0), some (zR 31 0), some (zI x4), u5, u6], [zI ((M.1 32 0 x4.toNat) % 32)], M, cl)) rfl (by first | decide | (dsimp only; decide)) ?_
    refine zT.it 1 (t := (xm_tsw 49 839 0 17 #[87, 144, 157, 201, 214, 258, 314, 370, 426, 439, 507, 520, 599, 643, 679, 703, 727, 771] (zi ((M.1 32 0 x4.toNat) % 32)), [some (zR 32 0), some (zR 0 0), some (zR 18 0), some (zR 31 0), some (zI x4), u5, u6], [], M, cl)) rfl ?_
    obtain ⟨hx, h⟩ := h
    by_cases c0 : (M.1 32 0 x4.toNat) % 32 = 0
    · replace h := h.1 c0
      rw [show xm_tsw 49 839 0 17 #[87, 144, 157, 201, 214, 258, 314, 370, 426, 439, 507, 520, 599, 643, 679, 703, 727, 771] (zi ((M.1 32 0 x4.toNat) % 32)) = 136 from (by rw [c0]; rfl)]
      exact h
    replace h := h.2
    by_cases c1 : (M.1 32 0 x4.toNat) % 32 = 1
    · replace h := h.1 c1
      rw [show xm_tsw 49 839 0 17 #[87, 144, 157, 201, 214, 258, 314, 370, 426, 439, 507, 520, 599, 643, 679, 703, 727, 771] (zi ((M.1 32 0 x4.toNat) % 32)) = 193 from (by rw [c1]; rfl)]
      exact h
    replace h := h.2
    by_cases c2 : (M.1 32 0 x4.toNat) % 32 = 2
    · replace h := h.1 c2
      rw [show xm_tsw 49 839 0 17 #[87, 144, 157, 201, 214, 258, 314, 370, 426, 439, 507, 520, 599, 643, 679, 703, 727, 771] (zi ((M.1 32 0 x4.toNat) % 32)) = 206 from (by rw [c2]; rfl)]
      exact h
    replace h := h.2
    by_cases c3 : (M.1 32 0 x4.toNat) % 32 = 3
    · replace h := h.1 c3
      rw [show xm_tsw 49 839 0 17 #[87, 144, 157, 201, 214, 258, 314, 370, 426, 439, 507, 520, 599, 643, 679, 703, 727, 771] (zi ((M.1 32 0 x4.toNat) % 32)) = 250 from (by rw [c3]; rfl)]
      exact h
    replace h := h.2
    by_cases c4 : (M.1 32 0 x4.toNat) % 32 = 4
    · replace h := h.1 c4
      rw [show xm_tsw 49 839 0 17 #[87, 144, 157, 201, 214, 258, 314, 370, 426, 439, 507, 520, 599, 643, 679, 703, 727, 771] (zi ((M.1 32 0 x4.toNat) % 32)) = 263 from (by rw [c4]; rfl)]
      exact h
    replace h := h.2
    by_cases c5 : (M.1 32 0 x4.toNat) % 32 = 5
    · replace h := h.1 c5
      rw [show xm_tsw 49 839 0 17 #[87, 144, 157, 201, 214, 258, 314, 370, 426, 439, 507, 520, 599, 643, 679, 703, 727, 771] (zi ((M.1 32 0 x4.toNat) % 32)) = 307 from (by rw [c5]; rfl)]
      exact h
    replace h := h.2
    by_cases c6 : (M.1 32 0 x4.toNat) % 32 = 6
    · replace h := h.1 c6
      rw [show xm_tsw 49 839 0 17 #[87, 144, 157, 201, 214, 258, 314, 370, 426, 439, 507, 520, 599, 643, 679, 703, 727, 771] (zi ((M.1 32 0 x4.toNat) % 32)) = 363 from (by rw [c6]; rfl)]
      exact h
    replace h := h.2
    by_cases c7 : (M.1 32 0 x4.toNat) % 32 = 7
    · replace h := h.1 c7
      rw [show xm_tsw 49 839 0 17 #[87, 144, 157, 201, 214, 258, 314, 370, 426, 439, 507, 520, 599, 643, 679, 703, 727, 771] (zi ((M.1 32 0 x4.toNat) % 32)) = 419 from (by rw [c7]; rfl)]
      exact h
    replace h := h.2
    by_cases c8 : (M.1 32 0 x4.toNat) % 32 = 8
    · replace h := h.1 c8
      rw [show xm_tsw 49 839 0 17 #[87, 144, 157, 201, 214, 258, 314, 370, 426, 439, 507, 520, 599, 643, 679, 703, 727, 771] (zi ((M.1 32 0 x4.toNat) % 32)) = 475 from (by rw [c8]; rfl)]
      exact h
    replace h := h.2
    by_cases c9 : (M.1 32 0 x4.toNat) % 32 = 9
    · replace h := h.1 c9
      rw [show xm_tsw 49 839 0 17 #[87, 144, 157, 201, 214, 258, 314, 370, 426, 439, 507, 520, 599, 643, 679, 703, 727, 771] (zi ((M.1 32 0 x4.toNat) % 32)) = 488 from (by rw [c9]; rfl)]
      exact h
    replace h := h.2
    by_cases c10 : (M.1 32 0 x4.toNat) % 32 = 10
    · replace h := h.1 c10
      rw [show xm_tsw 49 839 0 17 #[87, 144, 157, 201, 214, 258, 314, 370, 426, 439, 507, 520, 599, 643, 679, 703, 727, 771] (zi ((M.1 32 0 x4.toNat) % 32)) = 556 from (by rw [c10]; rfl)]
      exact h
    replace h := h.2
    by_cases c11 : (M.1 32 0 x4.toNat) % 32 = 11
    · replace h := h.1 c11
      rw [show xm_tsw 49 839 0 17 #[87, 144, 157, 201, 214, 258, 314, 370, 426, 439, 507, 520, 599, 643, 679, 703, 727, 771] (zi ((M.1 32 0 x4.toNat) % 32)) = 569 from (by rw [c11]; rfl)]
      exact h
    replace h := h.2
    by_cases c12 : (M.1 32 0 x4.toNat) % 32 = 12
    · replace h := h.1 c12
      rw [show xm_tsw 49 839 0 17 #[87, 144, 157, 201, 214, 258, 314, 370, 426, 439, 507, 520, 599, 643, 679, 703, 727, 771] (zi ((M.1 32 0 x4.toNat) % 32)) = 648 from (by rw [c12]; rfl)]
      exact h
    replace h := h.2
    by_cases c13 : (M.1 32 0 x4.toNat) % 32 = 13
    · replace h := h.1 c13
      rw [show xm_tsw 49 839 0 17 #[87, 144, 157, 201, 214, 258, 314, 370, 426, 439, 507, 520, 599, 643, 679, 703, 727, 771] (zi ((M.1 32 0 x4.toNat) % 32)) = 692 from (by rw [c13]; rfl)]
      exact h
    replace h := h.2
    by_cases c14 : (M.1 32 0 x4.toNat) % 32 = 14
    · replace h := h.1 c14
      rw [show xm_tsw 49 839 0 17 #[87, 144, 157, 201, 214, 258, 314, 370, 426, 439, 507, 520, 599, 643, 679, 703, 727, 771] (zi ((M.1 32 0 x4.toNat) % 32)) = 728 from (by rw [c14]; rfl)]
      exact h
    replace h := h.2
    by_cases c15 : (M.1 32 0 x4.toNat) % 32 = 15
    · replace h := h.1 c15
      rw [show xm_tsw 49 839 0 17 #[87, 144, 157, 201, 214, 258, 314, 370, 426, 439, 507, 520, 599, 643, 679, 703, 727, 771] (zi ((M.1 32 0 x4.toNat) % 32)) = 752 from (by rw [c15]; rfl)]
      exact h
    replace h := h.2
    by_cases c16 : (M.1 32 0 x4.toNat) % 32 = 16
    · replace h := h.1 c16
      rw [show xm_tsw 49 839 0 17 #[87, 144, 157, 201, 214, 258, 314, 370, 426, 439, 507, 520, 599, 643, 679, 703, 727, 771] (zi ((M.1 32 0 x4.toNat) % 32)) = 776 from (by rw [c16]; rfl)]
      exact h
    replace h := h.2
    by_cases c17 : (M.1 32 0 x4.toNat) % 32 = 17
    · replace h := h.1 c17
      rw [show xm_tsw 49 839 0 17 #[87, 144, 157, 201, 214, 258, 314, 370, 426, 439, 507, 520, 599, 643, 679, 703, 727, 771] (zi ((M.1 32 0 x4.toNat) % 32)) = 820 from (by rw [c17]; rfl)]
      exact h
    replace h := h.2
    replace h := h c0 c1 c2 c3 c4 c5 c6 c7 c8 c9 c10 c11 c12 c13 c14 c15 c16 c17
    rw [show xm_tsw 49 839 0 17 #[87, 144, 157, 201, 214, 258, 314, 370, 426, 439, 507, 520, 599, 643, 679, 703, 727, 771] (zi ((M.1 32 0 x4.toNat) % 32)) = 888 from z_tsw_x hx (by omega) rfl]
    refine zT.it 2 (t := (33, [some (zR 32 0), some (zR 0 0), some (zR 18 0), some (zR 31 0), some (zI (x4 + 3)), u5, u6], [], M, cl)) rfl ?_
    exact h
theorem g145_136_32 {x4 : Int} {u5 : Option zV} {u6 : Option zV} {M : zM} {cl : Bool} {Q : zQ} (h : (z_wi (x4 + 1) M.2.2) ∧ ((zr (M.1 32 0 ((x4 + 1).toNat))) ∧ ((z_wi (x4 + 2) M.2.2) ∧ ((zr (M.1 32 0 ((x4 + 2).toNat))) ∧ ((((M.1 32 0 ((x4 + 1).toNat)) * 2 ^ 32) % 4294967296 = 0 ∧ 0 ≤ ((M.1 32 0 ((x4 + 2).toNat)) % 4294967296) ∧ ((M.1 32 0 ((x4 + 2).toNat)) % 4294967296) < 4294967296) ∧ (zF 2 [zR 0 0, zJ (((M.1 32 0 ((x4 + 1).toNat)) * 2 ^ 32) + ((M.1 32 0 ((x4 + 2).toNat)) % 4294967296))] M (fun v M1 => ∃ r1 : Int, v = some (zI r1) ∧ ∀ cl1 : Bool, (z_wi (x4 + 1) M1.2.2) ∧ ((zr (M1.1 32 0 ((x4 + 1).toNat))) ∧ ((z_wi (x4 + 2) M1.2.2) ∧ ((zr (M1.1 32 0 ((x4 + 2).toNat))) ∧ ((((M1.1 32 0 ((x4 + 1).toNat)) * 2 ^ 32) % 4294967296 = 0 ∧ 0 ≤ ((M1.1 32 0 ((x4 + 2).toNat)) % 4294967296) ∧ ((M1.1 32 0 ((x4 + 2).toNat)) % 4294967296) < 4294967296) ∧ (zF 3 [zR 18 0, zJ (((M1.1 32 0 ((x4 + 1).toNat)) * 2 ^ 32) + ((M1.1 32 0 ((x4 + 2).toNat)) % 4294967296))] M1 (fun v M2 => ∃ r2 : Int, v = some (zI r2) ∧ ∀ cl2 : Bool, (zr r1 ∧ zr r2) ∧ ((r1 = r2 → zT 145 (33, [some (zR 32 0), some (zR 0 0), some (zR 18 0), some (zR 31 0), some (zI (x4 + 3)), u5, u6], [], M2, cl2) Q) ∧ (¬ (r1 = r2) → Q (.inl (some (zI 0))) M2 cl2 0))))))))))))))) : zT 145 (136, [some (zR 32 0), some (zR 0 0), some (zR 18 0), some (zR 31 0), some (zI x4), u5, u6], [], M, cl) Q := by
  refine zT.it 5 (t := (142, [some (zR 32 0), some (zR 0 0), some (zR 18 0), some (zR 31 0), some (zI x4), u5, u6], [zI (x4 + 1), zR 32 0, zR 0 0], M, cl)) rfl ?_
  refine zT.chk (p := z_wi (x4 + 1) M.2.2) (t := (143, [some (zR 32 0), some (zR 0 0), some (zR 18 0), some (zR 31 0), some (zI x4), u5, u6], [zI (M.1 32 0 ((x4 + 1).toNat)), zR 0 0], M, cl)) rfl h.1 ?_
  replace h := h.2
  refine zT.chk (p := zr (M.1 32 0 ((x4 + 1).toNat))) (t := (144, [some (zR 32 0), some (zR 0 0), some (zR 18 0), some (zR 31 0), some (zI x4), u5, u6], [zJ (M.1 32 0 ((x4 + 1).toNat)), zR 0 0], M, cl)) rfl h.1 ?_
  replace h := h.2
  refine zT.it 1 (t := (146, [some (zR 32 0), some (zR 0 0), some (zR 18 0), some (zR 31 0), some (zI x4), u5, u6], [zI 32, zJ (M.1 32 0 ((x4 + 1).toNat)), zR 0 0], M, cl)) rfl ?_
  refine zT.chk (t := (147, [some (zR 32 0), some (zR 0 0), some (zR 18 0), some (zR 31 0), some (zI x4), u5, u6], [zJ ((M.1 32 0 ((x4 + 1).toNat)) * 2 ^ 32), zR 0 0], M, cl)) rfl (by first | decide | (dsimp only; decide)) ?_
  refine zT.it 4 (t := (152, [some (zR 32 0), some (zR 0 0), some (zR 18 0), some (zR 31 0), some (zI x4), u5, u6], [zI (x4 + 2), zR 32 0, zJ ((M.1 32 0 ((x4 + 1).toNat)) * 2 ^ 32), zR 0 0], M, cl)) rfl ?_
  refine zT.chk (p := z_wi (x4 + 2) M.2.2) (t := (153, [some (zR 32 0), some (zR 0 0), some (zR 18 0), some (zR 31 0), some (zI x4), u5, u6], [zI (M.1 32 0 ((x4 + 2).toNat)), zJ ((M.1 32 0 ((x4 + 1).toNat)) * 2 ^ 32), zR 0 0], M, cl)) rfl h.1 ?_
  replace h := h.2
  refine zT.chk (p := zr (M.1 32 0 ((x4 + 2).toNat))) (t := (154, [some (zR 32 0), some (zR 0 0), some (zR 18 0), some (zR 31 0), some (zI x4), u5, u6], [zJ (M.1 32 0 ((x4 + 2).toNat)), zJ ((M.1 32 0 ((x4 + 1).toNat)) * 2 ^ 32), zR 0 0], M, cl)) rfl h.1 ?_
  replace h := h.2
  refine zT.it 1 (t := (157, [some (zR 32 0), some (zR 0 0), some (zR 18 0), some (zR 31 0), some (zI x4), u5, u6], [zJ 4294967295, zJ (M.1 32 0 ((x4 + 2).toNat)), zJ ((M.1 32 0 ((x4 + 1).toNat)) * 2 ^ 32), zR 0 0], M, cl)) rfl ?_
  refine zT.chk (t := (158, [some (zR 32 0), some (zR 0 0), some (zR 18 0), some (zR 31 0), some (zI x4), u5, u6], [zJ ((M.1 32 0 ((x4 + 2).toNat)) % 4294967296), zJ ((M.1 32 0 ((x4 + 1).toNat)) * 2 ^ 32), zR 0 0], M, cl)) rfl (by first | decide | (dsimp only; decide)) ?_
  refine zT.chk (p := ((M.1 32 0 ((x4 + 1).toNat)) * 2 ^ 32) % 4294967296 = 0 ∧ 0 ≤ ((M.1 32 0 ((x4 + 2).toNat)) % 4294967296) ∧ ((M.1 32 0 ((x4 + 2).toNat)) % 4294967296) < 4294967296) (t := (159, [some (zR 32 0), some (zR 0 0), some (zR 18 0), some (zR 31 0), some (zI x4), u5, u6], [zJ (((M.1 32 0 ((x4 + 1).toNat)) * 2 ^ 32) + ((M.1 32 0 ((x4 + 2).toNat)) % 4294967296)), zR 0 0], M, cl)) rfl h.1 ?_
  replace h := h.2
  refine zT.call (m := 2) (as := [zR 0 0, zJ (((M.1 32 0 ((x4 + 1).toNat)) * 2 ^ 32) + ((M.1 32 0 ((x4 + 2).toNat)) % 4294967296))]) (M := M) (L := [some (zR 32 0), some (zR 0 0), some (zR 18 0), some (zR 31 0), some (zI x4), u5, u6]) (st := []) (pn := 162) (cl := cl) rfl ?_
  refine zF.mono h (fun v M1 h cl1 => ?_)
  obtain ⟨r1, e1, h⟩ := h; subst e1; replace h := h cl1
  show zT 145 (162, [some (zR 32 0), some (zR 0 0), some (zR 18 0), some (zR 31 0), some (zI x4), u5, u6], [zI r1], M1, cl1) _
  refine zT.it 5 (t := (168, [some (zR 32 0), some (zR 0 0), some (zR 18 0), some (zR 31 0), some (zI x4), u5, u6], [zI (x4 + 1), zR 32 0, zR 18 0, zI r1], M1, cl1)) rfl ?_
  refine zT.chk (p := z_wi (x4 + 1) M1.2.2) (t := (169, [some (zR 32 0), some (zR 0 0), some (zR 18 0), some (zR 31 0), some (zI x4), u5, u6], [zI (M1.1 32 0 ((x4 + 1).toNat)), zR 18 0, zI r1], M1, cl1)) rfl h.1 ?_
  replace h := h.2
  refine zT.chk (p := zr (M1.1 32 0 ((x4 + 1).toNat))) (t := (170, [some (zR 32 0), some (zR 0 0), some (zR 18 0), some (zR 31 0), some (zI x4), u5, u6], [zJ (M1.1 32 0 ((x4 + 1).toNat)), zR 18 0, zI r1], M1, cl1)) rfl h.1 ?_
  replace h := h.2
  refine zT.it 1 (t := (172, [some (zR 32 0), some (zR 0 0), some (zR 18 0), some (zR 31 0), some (zI x4), u5, u6], [zI 32, zJ (M1.1 32 0 ((x4 + 1).toNat)), zR 18 0, zI r1], M1, cl1)) rfl ?_
  refine zT.chk (t := (173, [some (zR 32 0), some (zR 0 0), some (zR 18 0), some (zR 31 0), some (zI x4), u5, u6], [zJ ((M1.1 32 0 ((x4 + 1).toNat)) * 2 ^ 32), zR 18 0, zI r1], M1, cl1)) rfl (by first | decide | (dsimp only; decide)) ?_
  refine zT.it 4 (t := (178, [some (zR 32 0), some (zR 0 0), some (zR 18 0), some (zR 31 0), some (zI x4), u5, u6], [zI (x4 + 2), zR 32 0, zJ ((M1.1 32 0 ((x4 + 1).toNat)) * 2 ^ 32), zR 18 0, zI r1], M1, cl1)) rfl ?_
  refine zT.chk (p := z_wi (x4 + 2) M1.2.2) (t := (179, [some (zR 32 0), some (zR 0 0), some (zR 18 0), some (zR 31 0), some (zI x4), u5, u6], [zI (M1.1 32 0 ((x4 + 2).toNat)), zJ ((M1.1 32 0 ((x4 + 1).toNat)) * 2 ^ 32), zR 18 0, zI r1], M1, cl1)) rfl h.1 ?_
  replace h := h.2
  refine zT.chk (p := zr (M1.1 32 0 ((x4 + 2).toNat))) (t := (180, [some (zR 32 0), some (zR 0 0), some (zR 18 0), some (zR 31 0), some (zI x4), u5, u6], [zJ (M1.1 32 0 ((x4 + 2).toNat)), zJ ((M1.1 32 0 ((x4 + 1).toNat)) * 2 ^ 32), zR 18 0, zI r1], M1, cl1)) rfl h.1 ?_
  replace h := h.2
  refine zT.it 1 (t := (183, [some (zR 32 0), some (zR 0 0), some (zR 18 0), some (zR 31 0), some (zI x4), u5, u6], [zJ 4294967295, zJ (M1.1 32 0 ((x4 + 2).toNat)), zJ ((M1.1 32 0 ((x4 + 1).toNat)) * 2 ^ 32), zR 18 0, zI r1], M1, cl1)) rfl ?_
  refine zT.chk (t := (184, [some (zR 32 0), some (zR 0 0), some (zR 18 0), some (zR 31 0), some (zI x4), u5, u6], [zJ ((M1.1 32 0 ((x4 + 2).toNat)) % 4294967296), zJ ((M1.1 32 0 ((x4 + 1).toNat)) * 2 ^ 32), zR 18 0, zI r1], M1, cl1)) rfl (by first | decide | (dsimp only; decide)) ?_
  refine zT.chk (p := ((M1.1 32 0 ((x4 + 1).toNat)) * 2 ^ 32) % 4294967296 = 0 ∧ 0 ≤ ((M1.1 32 0 ((x4 + 2).toNat)) % 4294967296) ∧ ((M1.1 32 0 ((x4 + 2).toNat)) % 4294967296) < 4294967296) (t := (185, [some (zR 32 0), some (zR 0 0), some (zR 18 0), some (zR 31 0), some (zI x4), u5, u6], [zJ (((M1.1 32 0 ((x4 + 1).toNat)) * 2 ^ 32) + ((M1.1 32 0 ((x4 + 2).toNat)) % 4294967296)), zR 18 0, zI r1], M1, cl1)) rfl h.1 ?_
  replace h := h.2
  refine zT.call (m := 3) (as := [zR 18 0, zJ (((M1.1 32 0 ((x4 + 1).toNat)) * 2 ^ 32) + ((M1.1 32 0 ((x4 + 2).toNat)) % 4294967296))]) (M := M1) (L := [some (zR 32 0), some (zR 0 0), some (zR 18 0), some (zR 31 0), some (zI x4), u5, u6]) (st := [zI r1]) (pn := 188) (cl := cl1) rfl ?_
  refine zF.mono h (fun v M2 h cl2 => ?_)
  obtain ⟨r2, e2, h⟩ := h; subst e2; replace h := h cl2
  show zT 145 (188, [some (zR 32 0), some (zR 0 0), some (zR 18 0), some (zR 31 0), some (zI x4), u5, u6], [zI r2, zI r1], M2, cl2) _
  refine zT.br (g := zr r1 ∧ zr r2) (p := r1 = r2) (t := (888, [some (zR 32 0), some (zR 0 0), some (zR 18 0), some (zR 31 0), some (zI x4), u5, u6], [], M2, cl2)) (u := (191, [some (zR 32 0), some (zR 0 0), some (zR 18 0), some (zR 31 0), some (zI x4), u5, u6], [], M2, cl2)) rfl h.1 (fun c => ?_) (fun c => ?_)
  · replace h := h.2.1 c
    refine zT.it 2 (t := (33, [some (zR 32 0), some (zR 0 0), some (zR 18 0), some (zR 31 0), some (zI (x4 + 3)), u5, u6], [], M2, cl2)) rfl ?_
    exact h
  · replace h := h.2.2 c
    refine zT.it 1 (t := (192, [some (zR 32 0), some (zR 0 0), some (zR 18 0), some (zR 31 0), some (zI x4), u5, u6], [zI 0], M2, cl2)) rfl ?_
    exact zT.ret (v := some (zI 0)) rfl (by first | exact trivial | decide) h
theorem g145_193_32 {x4 : Int} {u5 : Option zV} {u6 : Option zV} {M : zM} {cl : Bool} {Q : zQ} (h : zF 5 [zR 0 0] M (fun v M3 => ∃ r3 : Int, v = some (zI r3) ∧ ∀ cl3 : Bool, zF 6 [zR 18 0] M3 (fun v M4 => ∃ r4 : Int, v = some (zI r4) ∧ ∀ cl4 : Bool, (zr r3 ∧ zr r4) ∧ ((r3 = r4 → zT 145 (33, [some (zR 32 0), some (zR 0 0), some (zR 18 0), some (zR 31 0), some (zI (x4 + 3)), u5, u6], [], M4, cl4) Q) ∧ (¬ (r3 = r4) → Q (.inl (some (zI 0))) M4 cl4 0))))) : zT 145 (193, [some (zR 32 0), some (zR 0 0), some (zR 18 0), some (zR 31 0), some (zI x4), u5, u6], [], M, cl) Q := by
  refine zT.it 1 (t := (194, [some (zR 32 0), some (zR 0 0), some (zR 18 0), some (zR 31 0), some (zI x4), u5, u6], [zR 0 0], M, cl)) rfl ?_
  refine zT.call (m := 5) (as := [zR 0 0]) (M := M) (L := [some (zR 32 0), some (zR 0 0), some (zR 18 0), some (zR 31 0), some (zI x4), u5, u6]) (st := []) (pn := 197) (cl := cl) rfl ?_
  refine zF.mono h (fun v M3 h cl3 => ?_)
  obtain ⟨r3, e3, h⟩ := h; subst e3; replace h := h cl3
  show zT 145 (197, [some (zR 32 0), some (zR 0 0), some (zR 18 0), some (zR 31 0), some (zI x4), u5, u6], [zI r3], M3, cl3) _
  refine zT.it 1 (t := (198, [some (zR 32 0), some (zR 0 0), some (zR 18 0), some (zR 31 0), some (zI x4), u5, u6], [zR 18 0, zI r3], M3, cl3)) rfl ?_
  refine zT.call (m := 6) (as := [zR 18 0]) (M := M3) (L := [some (zR 32 0), some (zR 0 0), some (zR 18 0), some (zR 31 0), some (zI x4), u5, u6]) (st := [zI r3]) (pn := 201) (cl := cl3) rfl ?_
  refine zF.mono h (fun v M4 h cl4 => ?_)
  obtain ⟨r4, e4, h⟩ := h; subst e4; replace h := h cl4
  show zT 145 (201, [some (zR 32 0), some (zR 0 0), some (zR 18 0), some (zR 31 0), some (zI x4), u5, u6], [zI r4, zI r3], M4, cl4) _
  refine zT.br (g := zr r3 ∧ zr r4) (p := r3 = r4) (t := (888, [some (zR 32 0), some (zR 0 0), some (zR 18 0), some (zR 31 0), some (zI x4), u5, u6], [], M4, cl4)) (u := (204, [some (zR 32 0), some (zR 0 0), some (zR 18 0), some (zR 31 0), some (zI x4), u5, u6], [], M4, cl4)) rfl h.1 (fun c => ?_) (fun c => ?_)
  · replace h := h.2.1 c
    refine zT.it 2 (t := (33, [some (zR 32 0), some (zR 0 0), some (zR 18 0), some (zR 31 0), some (zI (x4 + 3)), u5, u6], [], M4, cl4)) rfl ?_
    exact h
  · replace h := h.2.2 c
    refine zT.it 1 (t := (205, [some (zR 32 0), some (zR 0 0), some (zR 18 0), some (zR 31 0), some (zI x4), u5, u6], [zI 0], M4, cl4)) rfl ?_
    exact zT.ret (v := some (zI 0)) rfl (by first | exact trivial | decide) h
theorem g145_206_32 {x4 : Int} {u5 : Option zV} {u6 : Option zV} {M : zM} {cl : Bool} {Q : zQ} (h : zG 49 [zR 0 0, zR 31 0] M (fun v M5 d5 => ∃ r5 : Int, v = some (zI r5) ∧ ∀ cl5 : Bool, zF 63 [zR 18 0] M5 (fun v M6 => ∃ r6 : Int, v = some (zI r6) ∧ ∀ cl6 : Bool, zF 64 [zR 18 0] M6 (fun v M7 => ∃ r7 : Int, v = some (zI r7) ∧ ∀ cl7 : Bool, (zr r7 ∧ zr r5) ∧ ((r7 = r5 → (zr r5) ∧ ((¬ r5 = 0 → zT 145 (33, [some (zR 32 0), some (zR 0 0), some (zR 18 0), some (zR 31 0), some (zI (x4 + 3)), some (zI r5), some (zI r6)], [], M7, cl7) (fun o m c e => Q o m c (d5 + e))) ∧ (r5 = 0 → (zr r6) ∧ ((zrl (M7.2.1 31 0 0) ∧ zrl r6) ∧ (((M7.2.1 31 0 0) = r6 → zT 145 (33, [some (zR 32 0), some (zR 0 0), some (zR 18 0), some (zR 31 0), some (zI (x4 + 3)), some (zI r5), some (zI r6)], [], M7, cl7) (fun o m c e => Q o m c (d5 + e))) ∧ (¬ ((M7.2.1 31 0 0) = r6) → (fun o m c e => Q o m c (d5 + e)) (.inl (some (zI 0))) M7 cl7 0)))))) ∧ (¬ (r7 = r5) → (fun o m c e => Q o m c (d5 + e)) (.inl (some (zI 0))) M7 cl7 0)))))) : zT 145 (206, [some (zR 32 0), some (zR 0 0), some (zR 18 0), some (zR 31 0), some (zI x4), u5, u6], [], M, cl) Q := by
  refine zT.it 2 (t := (208, [some (zR 32 0), some (zR 0 0), some (zR 18 0), some (zR 31 0), some (zI x4), u5, u6], [zR 31 0, zR 0 0], M, cl)) rfl ?_
  refine zT.callG (m := 49) (as := [zR 0 0, zR 31 0]) (M := M) (L := [some (zR 32 0), some (zR 0 0), some (zR 18 0), some (zR 31 0), some (zI x4), u5, u6]) (st := []) (pn := 211) (cl := cl) rfl ?_
  refine zG.mono h (fun v M5 d5 h cl5 => ?_)
  obtain ⟨r5, e5, h⟩ := h; subst e5; replace h := h cl5
  show zT 145 (211, [some (zR 32 0), some (zR 0 0), some (zR 18 0), some (zR 31 0), some (zI x4), u5, u6], [zI r5], M5, cl5) _
  refine zT.it 2 (t := (214, [some (zR 32 0), some (zR 0 0), some (zR 18 0), some (zR 31 0), some (zI x4), some (zI r5), u6], [zR 18 0], M5, cl5)) rfl ?_
  refine zT.call (m := 63) (as := [zR 18 0]) (M := M5) (L := [some (zR 32 0), some (zR 0 0), some (zR 18 0), some (zR 31 0), some (zI x4), some (zI r5), u6]) (st := []) (pn := 217) (cl := cl5) rfl ?_
  refine zF.mono h (fun v M6 h cl6 => ?_)
  obtain ⟨r6, e6, h⟩ := h; subst e6; replace h := h cl6
  show zT 145 (217, [some (zR 32 0), some (zR 0 0), some (zR 18 0), some (zR 31 0), some (zI x4), some (zI r5), u6], [zI r6], M6, cl6) _
  refine zT.it 2 (t := (220, [some (zR 32 0), some (zR 0 0), some (zR 18 0), some (zR 31 0), some (zI x4), some (zI r5), some (zI r6)], [zR 18 0], M6, cl6)) rfl ?_
  refine zT.call (m := 64) (as := [zR 18 0]) (M := M6) (L := [some (zR 32 0), some (zR 0 0), some (zR 18 0), some (zR 31 0), some (zI x4), some (zI r5), some (zI r6)]) (st := []) (pn := 223) (cl := cl6) rfl ?_
  refine zF.mono h (fun v M7 h cl7 => ?_)
  obtain ⟨r7, e7, h⟩ := h; subst e7; replace h := h cl7
  show zT 145 (223, [some (zR 32 0), some (zR 0 0), some (zR 18 0), some (zR 31 0), some (zI x4), some (zI r5), some (zI r6)], [zI r7], M7, cl7) _
  refine zT.it 1 (t := (225, [some (zR 32 0), some (zR 0 0), some (zR 18 0), some (zR 31 0), some (zI x4), some (zI r5), some (zI r6)], [zI r5, zI r7], M7, cl7)) rfl ?_
  refine zT.br (g := zr r7 ∧ zr r5) (p := r7 = r5) (t := (230, [some (zR 32 0), some (zR 0 0), some (zR 18 0), some (zR 31 0), some (zI x4), some (zI r5), some (zI r6)], [], M7, cl7)) (u := (228, [some (zR 32 0), some (zR 0 0), some (zR 18 0), some (zR 31 0), some (zI x4), some (zI r5), some (zI r6)], [], M7, cl7)) rfl h.1 (fun c => ?_) (fun c => ?_)
  · replace h := h.2.1 c
    refine zT.it 1 (t := (232, [some (zR 32 0), some (zR 0 0), some (zR 18 0), some (zR 31 0), some (zI x4), some (zI r5), some (zI r6)], [zI r5], M7, cl7)) rfl ?_
    refine zT.br (g := zr r5) (p := ¬ r5 = 0) (t := (247, [some (zR 32 0), some (zR 0 0), some (zR 18 0), some (zR 31 0), some (zI x4), some (zI r5), some (zI r6)], [], M7, cl7)) (u := (235, [some (zR 32 0), some (zR 0 0), some (zR 18 0), some (zR 31 0), some (zI x4), some (zI r5), some (zI r6)], [], M7, cl7)) rfl h.1 (fun c => ?_) (fun c => ?_)
    · replace h := h.2.1 c
      refine zT.it 3 (t := (33, [some (zR 32 0), some (zR 0 0), some (zR 18 0), some (zR 31 0), some (zI (x4 + 3)), some (zI r5), some (zI r6)], [], M7, cl7)) rfl ?_
      exact h
    · replace h := h.2.2 (Decidable.not_not.1 c)
      refine zT.it 2 (t := (237, [some (zR 32 0), some (zR 0 0), some (zR 18 0), some (zR 31 0), some (zI x4), some (zI r5), some (zI r6)], [zI 0, zR 31 0], M7, cl7)) rfl ?_
      refine zT.chk (t := (238, [some (zR 32 0), some (zR 0 0), some (zR 18 0), some (zR 31 0), some (zI x4), some (zI r5), some (zI r6)], [zJ (M7.2.1 31 0 0)], M7, cl7)) rfl (by first | decide | (dsimp only; decide)) ?_
      refine zT.it 1 (t := (240, [some (zR 32 0), some (zR 0 0), some (zR 18 0), some (zR 31 0), some (zI x4), some (zI r5), some (zI r6)], [zI r6, zJ (M7.2.1 31 0 0)], M7, cl7)) rfl ?_
      refine zT.chk (p := zr r6) (t := (241, [some (zR 32 0), some (zR 0 0), some (zR 18 0), some (zR 31 0), some (zI x4), some (zI r5), some (zI r6)], [zJ r6, zJ (M7.2.1 31 0 0)], M7, cl7)) rfl h.1 ?_
      replace h := h.2
      refine zT.chk (p := zrl (M7.2.1 31 0 0) ∧ zrl r6) (t := (242, [some (zR 32 0), some (zR 0 0), some (zR 18 0), some (zR 31 0), some (zI x4), some (zI r5), some (zI r6)], [zI (z_cmp (M7.2.1 31 0 0) r6)], M7, cl7)) rfl h.1 ?_
      replace h := h.2
      refine zT.br (t := (247, [some (zR 32 0), some (zR 0 0), some (zR 18 0), some (zR 31 0), some (zI x4), some (zI r5), some (zI r6)], [], M7, cl7)) (u := (245, [some (zR 32 0), some (zR 0 0), some (zR 18 0), some (zR 31 0), some (zI x4), some (zI r5), some (zI r6)], [], M7, cl7)) rfl (z_cmp_r _ _) (fun c => ?_) (fun c => ?_)
      · replace h := h.1 (z_cmp_eq.1 c)
        refine zT.it 3 (t := (33, [some (zR 32 0), some (zR 0 0), some (zR 18 0), some (zR 31 0), some (zI (x4 + 3)), some (zI r5), some (zI r6)], [], M7, cl7)) rfl ?_
        exact h
      · replace h := h.2 (fun d => c (z_cmp_eq.2 d))
        refine zT.it 1 (t := (246, [some (zR 32 0), some (zR 0 0), some (zR 18 0), some (zR 31 0), some (zI x4), some (zI r5), some (zI r6)], [zI 0], M7, cl7)) rfl ?_
        exact zT.ret (v := some (zI 0)) rfl (by first | exact trivial | decide) h
  · replace h := h.2.2 c
    refine zT.it 1 (t := (229, [some (zR 32 0), some (zR 0 0), some (zR 18 0), some (zR 31 0), some (zI x4), some (zI r5), some (zI r6)], [zI 0], M7, cl7)) rfl ?_
    exact zT.ret (v := some (zI 0)) rfl (by first | exact trivial | decide) h
theorem g145_250_32 {x4 : Int} {u5 : Option zV} {u6 : Option zV} {M : zM} {cl : Bool} {Q : zQ} (h : zF 65 [zR 0 0] M (fun v M8 => ∃ r8 : Int, v = some (zI r8) ∧ ∀ cl8 : Bool, zF 66 [zR 18 0] M8 (fun v M9 => ∃ r9 : Int, v = some (zI r9) ∧ ∀ cl9 : Bool, (zr r8 ∧ zr r9) ∧ ((r8 = r9 → zT 145 (33, [some (zR 32 0), some (zR 0 0), some (zR 18 0), some (zR 31 0), some (zI (x4 + 3)), u5, u6], [], M9, cl9) Q) ∧ (¬ (r8 = r9) → Q (.inl (some (zI 0))) M9 cl9 0))))) : zT 145 (250, [some (zR 32 0), some (zR 0 0), some (zR 18 0), some (zR 31 0), some (zI x4), u5, u6], [], M, cl) Q := by
  refine zT.it 1 (t := (251, [some (zR 32 0), some (zR 0 0), some (zR 18 0), some (zR 31 0), some (zI x4), u5, u6], [zR 0 0], M, cl)) rfl ?_
  refine zT.call (m := 65) (as := [zR 0 0]) (M := M) (L := [some (zR 32 0), some (zR 0 0), some (zR 18 0), some (zR 31 0), some (zI x4), u5, u6]) (st := []) (pn := 254) (cl := cl) rfl ?_
  refine zF.mono h (fun v M8 h cl8 => ?_)
  obtain ⟨r8, e8, h⟩ := h; subst e8; replace h := h cl8
  show zT 145 (254, [some (zR 32 0), some (zR 0 0), some (zR 18 0), some (zR 31 0), some (zI x4), u5, u6], [zI r8], M8, cl8) _
  refine zT.it 1 (t := (255, [some (zR 32 0), some (zR 0 0), some (zR 18 0), some (zR 31 0), some (zI x4), u5, u6], [zR 18 0, zI r8], M8, cl8)) rfl ?_
  refine zT.call (m := 66) (as := [zR 18 0]) (M := M8) (L := [some (zR 32 0), some (zR 0 0), some (zR 18 0), some (zR 31 0), some (zI x4), u5, u6]) (st := [zI r8]) (pn := 258) (cl := cl8) rfl ?_
  refine zF.mono h (fun v M9 h cl9 => ?_)
  obtain ⟨r9, e9, h⟩ := h; subst e9; replace h := h cl9
  show zT 145 (258, [some (zR 32 0), some (zR 0 0), some (zR 18 0), some (zR 31 0), some (zI x4), u5, u6], [zI r9, zI r8], M9, cl9) _
  refine zT.br (g := zr r8 ∧ zr r9) (p := r8 = r9) (t := (888, [some (zR 32 0), some (zR 0 0), some (zR 18 0), some (zR 31 0), some (zI x4), u5, u6], [], M9, cl9)) (u := (261, [some (zR 32 0), some (zR 0 0), some (zR 18 0), some (zR 31 0), some (zI x4), u5, u6], [], M9, cl9)) rfl h.1 (fun c => ?_) (fun c => ?_)
  · replace h := h.2.1 c
    refine zT.it 2 (t := (33, [some (zR 32 0), some (zR 0 0), some (zR 18 0), some (zR 31 0), some (zI (x4 + 3)), u5, u6], [], M9, cl9)) rfl ?_
    exact h
  · replace h := h.2.2 c
    refine zT.it 1 (t := (262, [some (zR 32 0), some (zR 0 0), some (zR 18 0), some (zR 31 0), some (zI x4), u5, u6], [zI 0], M9, cl9)) rfl ?_
    exact zT.ret (v := some (zI 0)) rfl (by first | exact trivial | decide) h
theorem g145_263_32 {x4 : Int} {u5 : Option zV} {u6 : Option zV} {M : zM} {cl : Bool} {Q : zQ} (h : zG 85 [zR 0 0, zR 31 0] M (fun v M10 d10 => ∃ r10 : Int, v = some (zI r10) ∧ ∀ cl10 : Bool, zF 98 [zR 18 0] M10 (fun v M11 => ∃ r11 : Int, v = some (zI r11) ∧ ∀ cl11 : Bool, zF 64 [zR 18 0] M11 (fun v M12 => ∃ r12 : Int, v = some (zI r12) ∧ ∀ cl12 : Bool, (zr r12 ∧ zr r10) ∧ ((r12 = r10 → (zr r10) ∧ ((¬ r10 = 0 → zT 145 (33, [some (zR 32 0), some (zR 0 0), some (zR 18 0), some (zR 31 0), some (zI (x4 + 3)), some (zI r10), some (zI r11)], [], M12, cl12) (fun o m c e => Q o m c (d10 + e))) ∧ (r10 = 0 → (zr r11) ∧ ((zrl (M12.2.1 31 0 0) ∧ zrl r11) ∧ (((M12.2.1 31 0 0) = r11 → zT 145 (33, [some (zR 32 0), some (zR 0 0), some (zR 18 0), some (zR 31 0), some (zI (x4 + 3)), some (zI r10), some (zI r11)], [], M12, cl12) (fun o m c e => Q o m c (d10 + e))) ∧ (¬ ((M12.2.1 31 0 0) = r11) → (fun o m c e => Q o m c (d10 + e)) (.inl (some (zI 0))) M12 cl12 0)))))) ∧ (¬ (r12 = r10) → (fun o m c e => Q o m c (d10 + e)) (.inl (some (zI 0))) M12 cl12 0)))))) : zT 145 (263, [some (zR 32 0), some (zR 0 0), some (zR 18 0), some (zR 31 0), some (zI x4), u5, u6], [], M, cl) Q := by
  refine zT.it 2 (t := (265, [some (zR 32 0), some (zR 0 0), some (zR 18 0), some (zR 31 0), some (zI x4), u5, u6], [zR 31 0, zR 0 0], M, cl)) rfl ?_
  refine zT.callG (m := 85) (as := [zR 0 0, zR 31 0]) (M := M) (L := [some (zR 32 0), some (zR 0 0), some (zR 18 0), some (zR 31 0), some (zI x4), u5, u6]) (st := []) (pn := 268) (cl := cl) rfl ?_
  refine zG.mono h (fun v M10 d10 h cl10 => ?_)
  obtain ⟨r10, e10, h⟩ := h; subst e10; replace h := h cl10
  show zT 145 (268, [some (zR 32 0), some (zR 0 0), some (zR 18 0), some (zR 31 0), some (zI x4), u5, u6], [zI r10], M10, cl10) _
  refine zT.it 2 (t := (271, [some (zR 32 0), some (zR 0 0), some (zR 18 0), some (zR 31 0), some (zI x4), some (zI r10), u6], [zR 18 0], M10, cl10)) rfl ?_
  refine zT.call (m := 98) (as := [zR 18 0]) (M := M10) (L := [some (zR 32 0), some (zR 0 0), some (zR 18 0), some (zR 31 0), some (zI x4), some (zI r10), u6]) (st := []) (pn := 274) (cl := cl10) rfl ?_
  refine zF.mono h (fun v M11 h cl11 => ?_)
  obtain ⟨r11, e11, h⟩ := h; subst e11; replace h := h cl11
  show zT 145 (274, [some (zR 32 0), some (zR 0 0), some (zR 18 0), some (zR 31 0), some (zI x4), some (zI r10), u6], [zI r11], M11, cl11) _
  refine zT.it 2 (t := (277, [some (zR 32 0), some (zR 0 0), some (zR 18 0), some (zR 31 0), some (zI x4), some (zI r10), some (zI r11)], [zR 18 0], M11, cl11)) rfl ?_
  refine zT.call (m := 64) (as := [zR 18 0]) (M := M11) (L := [some (zR 32 0), some (zR 0 0), some (zR 18 0), some (zR 31 0), some (zI x4), some (zI r10), some (zI r11)]) (st := []) (pn := 280) (cl := cl11) rfl ?_
  refine zF.mono h (fun v M12 h cl12 => ?_)
  obtain ⟨r12, e12, h⟩ := h; subst e12; replace h := h cl12
  show zT 145 (280, [some (zR 32 0), some (zR 0 0), some (zR 18 0), some (zR 31 0), some (zI x4), some (zI r10), some (zI r11)], [zI r12], M12, cl12) _
  refine zT.it 1 (t := (282, [some (zR 32 0), some (zR 0 0), some (zR 18 0), some (zR 31 0), some (zI x4), some (zI r10), some (zI r11)], [zI r10, zI r12], M12, cl12)) rfl ?_
  refine zT.br (g := zr r12 ∧ zr r10) (p := r12 = r10) (t := (287, [some (zR 32 0), some (zR 0 0), some (zR 18 0), some (zR 31 0), some (zI x4), some (zI r10), some (zI r11)], [], M12, cl12)) (u := (285, [some (zR 32 0), some (zR 0 0), some (zR 18 0), some (zR 31 0), some (zI x4), some (zI r10), some (zI r11)], [], M12, cl12)) rfl h.1 (fun c => ?_) (fun c => ?_)
  · replace h := h.2.1 c
    refine zT.it 1 (t := (289, [some (zR 32 0), some (zR 0 0), some (zR 18 0), some (zR 31 0), some (zI x4), some (zI r10), some (zI r11)], [zI r10], M12, cl12)) rfl ?_
    refine zT.br (g := zr r10) (p := ¬ r10 = 0) (t := (304, [some (zR 32 0), some (zR 0 0), some (zR 18 0), some (zR 31 0), some (zI x4), some (zI r10), some (zI r11)], [], M12, cl12)) (u := (292, [some (zR 32 0), some (zR 0 0), some (zR 18 0), some (zR 31 0), some (zI x4), some (zI r10), some (zI r11)], [], M12, cl12)) rfl h.1 (fun c => ?_) (fun c => ?_)
    · replace h := h.2.1 c
      refine zT.it 3 (t := (33, [some (zR 32 0), some (zR 0 0), some (zR 18 0), some (zR 31 0), some (zI (x4 + 3)), some (zI r10), some (zI r11)], [], M12, cl12)) rfl ?_
      exact h
    · replace h := h.2.2 (Decidable.not_not.1 c)
      refine zT.it 2 (t := (294, [some (zR 32 0), some (zR 0 0), some (zR 18 0), some (zR 31 0), some (zI x4), some (zI r10), some (zI r11)], [zI 0, zR 31 0], M12, cl12)) rfl ?_
      refine zT.chk (t := (295, [some (zR 32 0), some (zR 0 0), some (zR 18 0), some (zR 31 0), some (zI x4), some (zI r10), some (zI r11)], [zJ (M12.2.1 31 0 0)], M12, cl12)) rfl (by first | decide | (dsimp only; decide)) ?_
      refine zT.it 1 (t := (297, [some (zR 32 0), some (zR 0 0), some (zR 18 0), some (zR 31 0), some (zI x4), some (zI r10), some (zI r11)], [zI r11, zJ (M12.2.1 31 0 0)], M12, cl12)) rfl ?_
      refine zT.chk (p := zr r11) (t := (298, [some (zR 32 0), some (zR 0 0), some (zR 18 0), some (zR 31 0), some (zI x4), some (zI r10), some (zI r11)], [zJ r11, zJ (M12.2.1 31 0 0)], M12, cl12)) rfl h.1 ?_
      replace h := h.2
      refine zT.chk (p := zrl (M12.2.1 31 0 0) ∧ zrl r11) (t := (299, [some (zR 32 0), some (zR 0 0), some (zR 18 0), some (zR 31 0), some (zI x4), some (zI r10), some (zI r11)], [zI (z_cmp (M12.2.1 31 0 0) r11)], M12, cl12)) rfl h.1 ?_
      replace h := h.2
      refine zT.br (t := (304, [some (zR 32 0), some (zR 0 0), some (zR 18 0), some (zR 31 0), some (zI x4), some (zI r10), some (zI r11)], [], M12, cl12)) (u := (302, [some (zR 32 0), some (zR 0 0), some (zR 18 0), some (zR 31 0), some (zI x4), some (zI r10), some (zI r11)], [], M12, cl12)) rfl (z_cmp_r _ _) (fun c => ?_) (fun c => ?_)
      · replace h := h.1 (z_cmp_eq.1 c)
        refine zT.it 3 (t := (33, [some (zR 32 0), some (zR 0 0), some (zR 18 0), some (zR 31 0), some (zI (x4 + 3)), some (zI r10), some (zI r11)], [], M12, cl12)) rfl ?_
        exact h
      · replace h := h.2 (fun d => c (z_cmp_eq.2 d))
        refine zT.it 1 (t := (303, [some (zR 32 0), some (zR 0 0), some (zR 18 0), some (zR 31 0), some (zI x4), some (zI r10), some (zI r11)], [zI 0], M12, cl12)) rfl ?_
        exact zT.ret (v := some (zI 0)) rfl (by first | exact trivial | decide) h
  · replace h := h.2.2 c
    refine zT.it 1 (t := (286, [some (zR 32 0), some (zR 0 0), some (zR 18 0), some (zR 31 0), some (zI x4), some (zI r10), some (zI r11)], [zI 0], M12, cl12)) rfl ?_
    exact zT.ret (v := some (zI 0)) rfl (by first | exact trivial | decide) h
