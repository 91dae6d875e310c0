-- what each piece of the program asks (written by gen/g.py out of the program itself)
theorem g25_38 {x2 : Int} {u3 : Option zV} {M : zM} {cl : Bool} {Q : zQ} (h : (zr x2 ∧ zr (M.1 3 0 2)) ∧ (((M.1 3 0 2) ≤ x2 → zF 21 [zR 6 0] M (fun v M1 => ∃ r1 : Int, v = some (zI r1) ∧ ∀ cl1 : Bool, (zr r1) ∧ ((r1 = 0 → Q (.inl (some (zI 0))) M1 cl1 0) ∧ (¬ (r1 = 0) → zF 24 [zR 6 0] M1 (fun v M2 => ∃ r2 : Int, v = some (zI r2) ∧ ∀ cl2 : Bool, (zr r2) ∧ ((r2 = 0 → Q (.inl (some (zI 0))) M2 cl2 0) ∧ (¬ (r2 = 0) → Q (.inl (some (zI 1))) M2 cl2 0))))))) ∧ (¬ ((M.1 3 0 2) ≤ x2) → (z_wi x2 40) ∧ (zF 19 [zR 6 0, zI (M.1 4 0 x2.toNat)] M (fun v M3 => ∃ r3 : Int, v = some (zI r3) ∧ ∀ cl3 : Bool, (zr r3) ∧ ((r3 = 0 → Q (.inl (some (zI 0))) M3 cl3 0) ∧ (¬ (r3 = 0) → zF 20 [zR 6 0, zI (M.1 4 0 x2.toNat)] M3 (fun v M4 => ∃ r4 : Int, v = some (zI r4) ∧ ∀ cl4 : Bool, (zr r4) ∧ ((r4 = 0 → (0 ≤ ((M.1 4 0 x2.toNat) - 65) ∧ ((M.1 4 0 x2.toNat) - 65) < 32) ∧ ((z_p (M4.1 6 0 1) ∧ z_p (1 * 2 ^ ((M.1 4 0 x2.toNat) - 65).toNat)) ∧ ((z_wi x2 40) ∧ ((z_wi ((M.1 4 0 x2.toNat) - 65) 26) ∧ (zT 25 (38, [some (zR 6 0), some (zR 3 0), some (zI (x2 + 1)), some (zI (M.1 4 0 x2.toNat))], [], (z_w (z_w M4 6 0 1 (Int.ofNat (Int.toNat (M4.1 6 0 1) ||| Int.toNat (1 * 2 ^ ((M.1 4 0 x2.toNat) - 65).toNat)))) 7 0 (((M.1 4 0 x2.toNat) - 65).toNat) (M4.1 5 0 x2.toNat)), false) Q))))) ∧ (¬ (r4 = 0) → Q (.inl (some (zI 0))) M4 cl4 0)))))))))) : zT 25 (38, [some (zR 6 0), some (zR 3 0), some (zI x2), u3], [], M, cl) Q := by
  refine zT.it 3 (t := (43, [some (zR 6 0), some (zR 3 0), some (zI x2), u3], [zI (M.1 3 0 2), zI x2], M, cl)) rfl ?_
  refine zT.br (g := zr x2 ∧ zr (M.1 3 0 2)) (p := (M.1 3 0 2) ≤ x2) (t := (107, [some (zR 6 0), some (zR 3 0), some (zI x2), u3], [], M, cl)) (u := (46, [some (zR 6 0), some (zR 3 0), some (zI x2), u3], [], M, cl)) rfl h.1 (fun c => ?_) (fun c => ?_)
  · replace h := h.2.1 c
    refine zT.it 1 (t := (108, [some (zR 6 0), some (zR 3 0), some (zI x2), u3], [zR 6 0], M, cl)) rfl ?_
    refine zT.call (m := 21) (as := [zR 6 0]) (M := M) (L := [some (zR 6 0), some (zR 3 0), some (zI x2), u3]) (st := []) (pn := 111) (cl := cl) rfl ?_
    refine zF.mono h (fun v M1 h cl1 => ?_)
    obtain ⟨r1, e1, h⟩ := h; subst e1; replace h := h cl1
    show zT 25 (111, [some (zR 6 0), some (zR 3 0), some (zI x2), u3], [zI r1], M1, cl1) _
    refine zT.br (g := zr r1) (p := r1 = 0) (t := (125, [some (zR 6 0), some (zR 3 0), some (zI x2), u3], [], M1, cl1)) (u := (114, [some (zR 6 0), some (zR 3 0), some (zI x2), u3], [], M1, cl1)) rfl h.1 (fun c => ?_) (fun c => ?_)
    · replace h := h.2.1 c
      refine zT.it 1 (t := (126, [some (zR 6 0), some (zR 3 0), some (zI x2), u3], [zI 0], M1, cl1)) rfl ?_
      exact zT.ret (v := some (zI 0)) rfl (by first | exact trivial | decide) h
    · replace h := h.2.2 c
      refine zT.it 1 (t := (115, [some (zR 6 0), some (zR 3 0), some (zI x2), u3], [zR 6 0], M1, cl1)) rfl ?_
      refine zT.call (m := 24) (as := [zR 6 0]) (M := M1) (L := [some (zR 6 0), some (zR 3 0), some (zI x2), u3]) (st := []) (pn := 118) (cl := cl1) rfl ?_
      refine zF.mono h (fun v M2 h cl2 => ?_)
      obtain ⟨r2, e2, h⟩ := h; subst e2; replace h := h cl2
      show zT 25 (118, [some (zR 6 0), some (zR 3 0), some (zI x2), u3], [zI r2], M2, cl2) _
      refine zT.br (g := zr r2) (p := r2 = 0) (t := (125, [some (zR 6 0), some (zR 3 0), some (zI x2), u3], [], M2, cl2)) (u := (121, [some (zR 6 0), some (zR 3 0), some (zI x2), u3], [], M2, cl2)) rfl h.1 (fun c => ?_) (fun c => ?_)
      · replace h := h.2.1 c
        refine zT.it 1 (t := (126, [some (zR 6 0), some (zR 3 0), some (zI x2), u3], [zI 0], M2, cl2)) rfl ?_
        exact zT.ret (v := some (zI 0)) rfl (by first | exact trivial | decide) h
      · replace h := h.2.2 c
        refine zT.it 2 (t := (126, [some (zR 6 0), some (zR 3 0), some (zI x2), u3], [zI 1], M2, cl2)) rfl ?_
        exact zT.ret (v := some (zI 1)) rfl (by first | exact trivial | decide) h
  · replace h := h.2.2 c
    refine zT.it 3 (t := (51, [some (zR 6 0), some (zR 3 0), some (zI x2), u3], [zI x2, zR 4 0], M, cl)) rfl ?_
    refine zT.chk (p := z_wi x2 40) (t := (52, [some (zR 6 0), some (zR 3 0), some (zI x2), u3], [zI (M.1 4 0 x2.toNat)], M, cl)) rfl h.1 ?_
    replace h := h.2
    refine zT.it 3 (t := (55, [some (zR 6 0), some (zR 3 0), some (zI x2), some (zI (M.1 4 0 x2.toNat))], [zI (M.1 4 0 x2.toNat), zR 6 0], M, cl)) rfl ?_
    refine zT.call (m := 19) (as := [zR 6 0, zI (M.1 4 0 x2.toNat)]) (M := M) (L := [some (zR 6 0), some (zR 3 0), some (zI x2), some (zI (M.1 4 0 x2.toNat))]) (st := []) (pn := 58) (cl := cl) rfl ?_
    refine zF.mono h (fun v M3 h cl3 => ?_)
    obtain ⟨r3, e3, h⟩ := h; subst e3; replace h := h cl3
    show zT 25 (58, [some (zR 6 0), some (zR 3 0), some (zI x2), some (zI (M.1 4 0 x2.toNat))], [zI r3], M3, cl3) _
    refine zT.br (g := zr r3) (p := r3 = 0) (t := (69, [some (zR 6 0), some (zR 3 0), some (zI x2), some (zI (M.1 4 0 x2.toNat))], [], M3, cl3)) (u := (61, [some (zR 6 0), some (zR 3 0), some (zI x2), some (zI (M.1 4 0 x2.toNat))], [], M3, cl3)) rfl h.1 (fun c => ?_) (fun c => ?_)
    · replace h := h.2.1 c
      refine zT.it 1 (t := (70, [some (zR 6 0), some (zR 3 0), some (zI x2), some (zI (M.1 4 0 x2.toNat))], [zI 0], M3, cl3)) rfl ?_
      exact zT.ret (v := some (zI 0)) rfl (by first | exact trivial | decide) h
    · replace h := h.2.2 c
      refine zT.it 2 (t := (63, [some (zR 6 0), some (zR 3 0), some (zI x2), some (zI (M.1 4 0 x2.toNat))], [zI (M.1 4 0 x2.toNat), zR 6 0], M3, cl3)) rfl ?_
      refine zT.call (m := 20) (as := [zR 6 0, zI (M.1 4 0 x2.toNat)]) (M := M3) (L := [some (zR 6 0), some (zR 3 0), some (zI x2), some (zI (M.1 4 0 x2.toNat))]) (st := []) (pn := 66) (cl := cl3) rfl ?_
      refine zF.mono h (fun v M4 h cl4 => ?_)
      obtain ⟨r4, e4, h⟩ := h; subst e4; replace h := h cl4
      show zT 25 (66, [some (zR 6 0), some (zR 3 0), some (zI x2), some (zI (M.1 4 0 x2.toNat))], [zI r4], M4, cl4) _
      refine zT.br (g := zr r4) (p := r4 = 0) (t := (71, [some (zR 6 0), some (zR 3 0), some (zI x2), some (zI (M.1 4 0 x2.toNat))], [], M4, cl4)) (u := (69, [some (zR 6 0), some (zR 3 0), some (zI x2), some (zI (M.1 4 0 x2.toNat))], [], M4, cl4)) rfl h.1 (fun c => ?_) (fun c => ?_)
      · replace h := h.2.1 c
        refine zT.it 7 (t := (81, [some (zR 6 0), some (zR 3 0), some (zI x2), some (zI (M.1 4 0 x2.toNat))], [zI ((M.1 4 0 x2.toNat) - 65), zI 1, zI (M4.1 6 0 1), zR 6 0], M4, cl4)) rfl ?_
        refine zT.chk (p := 0 ≤ ((M.1 4 0 x2.toNat) - 65) ∧ ((M.1 4 0 x2.toNat) - 65) < 32) (t := (82, [some (zR 6 0), some (zR 3 0), some (zI x2), some (zI (M.1 4 0 x2.toNat))], [zI (1 * 2 ^ ((M.1 4 0 x2.toNat) - 65).toNat), zI (M4.1 6 0 1), zR 6 0], M4, cl4)) rfl h.1 ?_
        replace h := h.2
        refine zT.chk (p := z_p (M4.1 6 0 1) ∧ z_p (1 * 2 ^ ((M.1 4 0 x2.toNat) - 65).toNat)) (t := (83, [some (zR 6 0), some (zR 3 0), some (zI x2), some (zI (M.1 4 0 x2.toNat))], [zI (Int.ofNat (Int.toNat (M4.1 6 0 1) ||| Int.toNat (1 * 2 ^ ((M.1 4 0 x2.toNat) - 65).toNat))), zR 6 0], M4, cl4)) rfl h.1 ?_
        replace h := h.2
        refine zT.it 9 (t := (99, [some (zR 6 0), some (zR 3 0), some (zI x2), some (zI (M.1 4 0 x2.toNat))], [zI x2, zR 5 0, zI ((M.1 4 0 x2.toNat) - 65), zR 7 0], (z_w M4 6 0 1 (Int.ofNat (Int.toNat (M4.1 6 0 1) ||| Int.toNat (1 * 2 ^ ((M.1 4 0 x2.toNat) - 65).toNat)))), false)) rfl ?_
        refine zT.chk (p := z_wi x2 40) (t := (100, [some (zR 6 0), some (zR 3 0), some (zI x2), some (zI (M.1 4 0 x2.toNat))], [zI (M4.1 5 0 x2.toNat), zI ((M.1 4 0 x2.toNat) - 65), zR 7 0], (z_w M4 6 0 1 (Int.ofNat (Int.toNat (M4.1 6 0 1) ||| Int.toNat (1 * 2 ^ ((M.1 4 0 x2.toNat) - 65).toNat)))), false)) rfl h.1 ?_
        replace h := h.2
        refine zT.chk (p := z_wi ((M.1 4 0 x2.toNat) - 65) 26) (t := (101, [some (zR 6 0), some (zR 3 0), some (zI x2), some (zI (M.1 4 0 x2.toNat))], [], (z_w (z_w M4 6 0 1 (Int.ofNat (Int.toNat (M4.1 6 0 1) ||| Int.toNat (1 * 2 ^ ((M.1 4 0 x2.toNat) - 65).toNat)))) 7 0 (((M.1 4 0 x2.toNat) - 65).toNat) (M4.1 5 0 x2.toNat)), false)) rfl h.1 ?_
        replace h := h.2
        refine zT.it 2 (t := (38, [some (zR 6 0), some (zR 3 0), some (zI (x2 + 1)), some (zI (M.1 4 0 x2.toNat))], [], (z_w (z_w M4 6 0 1 (Int.ofNat (Int.toNat (M4.1 6 0 1) ||| Int.toNat (1 * 2 ^ ((M.1 4 0 x2.toNat) - 65).toNat)))) 7 0 (((M.1 4 0 x2.toNat) - 65).toNat) (M4.1 5 0 x2.toNat)), false)) rfl ?_
        exact h
      · replace h := h.2.2 c
        refine zT.it 1 (t := (70, [some (zR 6 0), some (zR 3 0), some (zI x2), some (zI (M.1 4 0 x2.toNat))], [zI 0], M4, cl4)) rfl ?_
        exact zT.ret (v := some (zI 0)) rfl (by first | exact trivial | decide) h
theorem g26_0 {M : zM} {Q : zQ} (h : zT 26 (4, [some (zR 0 0), some (zI 0), some (zI 0), none, none], [], M, true) Q) : zT 26 (0, [some (zR 0 0), none, none, none, none], [], M, true) Q := by
  refine zT.it 4 (t := (4, [some (zR 0 0), some (zI 0), some (zI 0), none, none], [], M, true)) rfl ?_
  exact h
theorem g26_4a0 {x1 : Int} {u3 : Option zV} {u4 : Option zV} {M : zM} {cl : Bool} {Q : zQ} (h : zF 20 [zR 6 0, zI (z_chr 0)] (z_w M 17 0 0 (M.1 15 0 0)) (fun v M1 => ∃ r1 : Int, v = some (zI r1) ∧ ∀ cl1 : Bool, (zr r1) ∧ ((r1 = 0 → (zr x1) ∧ ((¬ x1 = 0 → zT 26 (4, [some (zR 0 0), some (zI 1), some (zI 1), some (zI (z_chr 0)), some (zI (M.1 15 0 0))], [], M1, cl1) Q) ∧ (x1 = 0 → (zr (M1.1 17 0 0) ∧ zr (M.1 15 0 0)) ∧ (((M1.1 17 0 0) = (M.1 15 0 0) → zT 26 (4, [some (zR 0 0), some (zI 0), some (zI 1), some (zI (z_chr 0)), some (zI (M.1 15 0 0))], [], M1, cl1) Q) ∧ (¬ ((M1.1 17 0 0) = (M.1 15 0 0)) → zT 26 (4, [some (zR 0 0), some (zI 1), some (zI 1), some (zI (z_chr 0)), some (zI (M.1 15 0 0))], [], M1, cl1) Q))))) ∧ (¬ (r1 = 0) → zF 22 [zR 6 0, zI (z_chr 0)] M1 (fun v M2 => ∃ r2 : Int, v = some (zI r2) ∧ ∀ cl2 : Bool, (zr (M2.1 0 0 12)) ∧ (((M2.1 0 0 12) = 0 → (zr x1) ∧ ((¬ x1 = 0 → zT 26 (4, [some (zR 0 0), some (zI 1), some (zI 1), some (zI (z_chr 0)), some (zI (M.1 15 0 0))], [], (z_w M2 17 0 0 (r2 + (M2.1 16 0 0))), false) Q) ∧ (x1 = 0 → (zr (r2 + (M2.1 16 0 0)) ∧ zr (M.1 15 0 0)) ∧ (((r2 + (M2.1 16 0 0)) = (M.1 15 0 0) → zT 26 (4, [some (zR 0 0), some (zI 0), some (zI 1), some (zI (z_chr 0)), some (zI (M.1 15 0 0))], [], (z_w M2 17 0 0 (r2 + (M2.1 16 0 0))), false) Q) ∧ (¬ ((r2 + (M2.1 16 0 0)) = (M.1 15 0 0)) → zT 26 (4, [some (zR 0 0), some (zI 1), some (zI 1), some (zI (z_chr 0)), some (zI (M.1 15 0 0))], [], (z_w M2 17 0 0 (r2 + (M2.1 16 0 0))), false) Q))))) ∧ (¬ ((M2.1 0 0 12) = 0) → (zr x1) ∧ ((¬ x1 = 0 → zT 26 (4, [some (zR 0 0), some (zI 1), some (zI 1), some (zI (z_chr 0)), some (zI (M.1 15 0 0))], [], (z_w M2 17 0 0 (r2 + (M.1 15 0 0))), false) Q) ∧ (x1 = 0 → (zr (r2 + (M.1 15 0 0)) ∧ zr (M.1 15 0 0)) ∧ (((r2 + (M.1 15 0 0)) = (M.1 15 0 0) → zT 26 (4, [some (zR 0 0), some (zI 0), some (zI 1), some (zI (z_chr 0)), some (zI (M.1 15 0 0))], [], (z_w M2 17 0 0 (r2 + (M.1 15 0 0))), false) Q) ∧ (¬ ((r2 + (M.1 15 0 0)) = (M.1 15 0 0)) → zT 26 (4, [some (zR 0 0), some (zI 1), some (zI 1), some (zI (z_chr 0)), some (zI (M.1 15 0 0))], [], (z_w M2 17 0 0 (r2 + (M.1 15 0 0))), false) Q))))))))))) : zT 26 (4, [some (zR 0 0), some (zI x1), some (zI 0), u3, u4], [], M, cl) Q := by
  refine zT.it 2 (t := (6, [some (zR 0 0), some (zI x1), some (zI 0), u3, u4], [zI 3, zI 0], M, cl)) rfl ?_
  refine zT.br (g := zr 0 ∧ zr 3) (p := 3 ≤ 0) (t := (103, [some (zR 0 0), some (zI x1), some (zI 0), u3, u4], [], M, cl)) (u := (9, [some (zR 0 0), some (zI x1), some (zI 0), u3, u4], [], M, cl)) rfl (by decide) (fun c => absurd c (by decide)) (fun c => ?_)
  refine zT.it 2 (t := (12, [some (zR 0 0), some (zI x1), some (zI 0), u3, u4], [zI 0, zR 33 0], M, cl)) rfl ?_
  refine zT.chk (t := (15, [some (zR 0 0), some (zI x1), some (zI 0), u3, u4], [zI (z_chr 0)], M, cl)) rfl (by first | decide | (dsimp only; decide)) ?_
  refine zT.it 4 (t := (21, [some (zR 0 0), some (zI x1), some (zI 0), some (zI (z_chr 0)), u4], [zI 0, zR 15 0], M, cl)) rfl ?_
  refine zT.chk (t := (22, [some (zR 0 0), some (zI x1), some (zI 0), some (zI (z_chr 0)), u4], [zI (M.1 15 0 0)], M, cl)) rfl (by first | decide | (dsimp only; decide)) ?_
  refine zT.it 5 (t := (31, [some (zR 0 0), some (zI x1), some (zI 0), some (zI (z_chr 0)), some (zI (M.1 15 0 0))], [zI (M.1 15 0 0), zI 0, zR 17 0], M, cl)) rfl ?_
  refine zT.chk (t := (32, [some (zR 0 0), some (zI x1), some (zI 0), some (zI (z_chr 0)), some (zI (M.1 15 0 0))], [], (z_w M 17 0 0 (M.1 15 0 0)), false)) rfl (by first | decide | (dsimp only; decide)) ?_
  refine zT.it 3 (t := (37, [some (zR 0 0), some (zI x1), some (zI 0), some (zI (z_chr 0)), some (zI (M.1 15 0 0))], [zI (z_chr 0), zR 6 0], (z_w M 17 0 0 (M.1 15 0 0)), false)) rfl ?_
  refine zT.call (m := 20) (as := [zR 6 0, zI (z_chr 0)]) (M := (z_w M 17 0 0 (M.1 15 0 0))) (L := [some (zR 0 0), some (zI x1), some (zI 0), some (zI (z_chr 0)), some (zI (M.1 15 0 0))]) (st := []) (pn := 40) (cl := false) rfl ?_
  refine zF.mono h (fun v M1 h cl1 => ?_)
  obtain ⟨r1, e1, h⟩ := h; subst e1; replace h := h cl1
  show zT 26 (40, [some (zR 0 0), some (zI x1), some (zI 0), some (zI (z_chr 0)), some (zI (M.1 15 0 0))], [zI r1], M1, cl1) _
  refine zT.br (g := zr r1) (p := r1 = 0) (t := (76, [some (zR 0 0), some (zI x1), some (zI 0), some (zI (z_chr 0)), some (zI (M.1 15 0 0))], [], M1, cl1)) (u := (43, [some (zR 0 0), some (zI x1), some (zI 0), some (zI (z_chr 0)), some (zI (M.1 15 0 0))], [], M1, cl1)) rfl h.1 (fun c => ?_) (fun c => ?_)
  · replace h := h.2.1 c
    refine zT.it 1 (t := (77, [some (zR 0 0), some (zI x1), some (zI 0), some (zI (z_chr 0)), some (zI (M.1 15 0 0))], [zI x1], M1, cl1)) rfl ?_
    refine zT.br (g := zr x1) (p := ¬ x1 = 0) (t := (91, [some (zR 0 0), some (zI x1), some (zI 0), some (zI (z_chr 0)), some (zI (M.1 15 0 0))], [], M1, cl1)) (u := (80, [some (zR 0 0), some (zI x1), some (zI 0), some (zI (z_chr 0)), some (zI (M.1 15 0 0))], [], M1, cl1)) rfl h.1 (fun c => ?_) (fun c => ?_)
    · replace h := h.2.1 c
      refine zT.it 5 (t := (4, [some (zR 0 0), some (zI 1), some (zI 1), some (zI (z_chr 0)), some (zI (M.1 15 0 0))], [], M1, cl1)) rfl ?_
      exact h
    · replace h := h.2.2 (Decidable.not_not.1 c)
      refine zT.it 3 (t := (85, [some (zR 0 0), some (zI x1), some (zI 0), some (zI (z_chr 0)), some (zI (M.1 15 0 0))], [zI 0, zR 17 0], M1, cl1)) rfl ?_
      refine zT.chk (t := (86, [some (zR 0 0), some (zI x1), some (zI 0), some (zI (z_chr 0)), some (zI (M.1 15 0 0))], [zI (M1.1 17 0 0)], M1, cl1)) rfl (by first | decide | (dsimp only; decide)) ?_
      refine zT.it 1 (t := (88, [some (zR 0 0), some (zI x1), some (zI 0), some (zI (z_chr 0)), some (zI (M.1 15 0 0))], [zI (M.1 15 0 0), zI (M1.1 17 0 0)], M1, cl1)) rfl ?_
      refine zT.br (g := zr (M1.1 17 0 0) ∧ zr (M.1 15 0 0)) (p := (M1.1 17 0 0) = (M.1 15 0 0)) (t := (95, [some (zR 0 0), some (zI x1), some (zI 0), some (zI (z_chr 0)), some (zI (M.1 15 0 0))], [], M1, cl1)) (u := (91, [some (zR 0 0), some (zI x1), some (zI 0), some (zI (z_chr 0)), some (zI (M.1 15 0 0))], [], M1, cl1)) rfl h.1 (fun c => ?_) (fun c => ?_)
      · replace h := h.2.1 c
        refine zT.it 4 (t := (4, [some (zR 0 0), some (zI 0), some (zI 1), some (zI (z_chr 0)), some (zI (M.1 15 0 0))], [], M1, cl1)) rfl ?_
        exact h
      · replace h := h.2.2 c
        refine zT.it 5 (t := (4, [some (zR 0 0), some (zI 1), some (zI 1), some (zI (z_chr 0)), some (zI (M.1 15 0 0))], [], M1, cl1)) rfl ?_
        exact h
  · replace h := h.2.2 c
    refine zT.it 6 (t := (53, [some (zR 0 0), some (zI x1), some (zI 0), some (zI (z_chr 0)), some (zI (M.1 15 0 0))], [zI (z_chr 0), zR 6 0, zI 0, zR 17 0], M1, cl1)) rfl ?_
    refine zT.call (m := 22) (as := [zR 6 0, zI (z_chr 0)]) (M := M1) (L := [some (zR 0 0), some (zI x1), some (zI 0), some (zI (z_chr 0)), some (zI (M.1 15 0 0))]) (st := [zI 0, zR 17 0]) (pn := 56) (cl := cl1) rfl ?_
    refine zF.mono h (fun v M2 h cl2 => ?_)
    obtain ⟨r2, e2, h⟩ := h; subst e2; replace h := h cl2
    show zT 26 (56, [some (zR 0 0), some (zI x1), some (zI 0), some (zI (z_chr 0)), some (zI (M.1 15 0 0))], [zI r2, zI 0, zR 17 0], M2, cl2) _
    refine zT.it 2 (t := (60, [some (zR 0 0), some (zI x1), some (zI 0), some (zI (z_chr 0)), some (zI (M.1 15 0 0))], [zI (M2.1 0 0 12), zI r2, zI 0, zR 17 0], M2, cl2)) rfl ?_
    refine zT.br (g := zr (M2.1 0 0 12)) (p := (M2.1 0 0 12) = 0) (t := (68, [some (zR 0 0), some (zI x1), some (zI 0), some (zI (z_chr 0)), some (zI (M.1 15 0 0))], [zI r2, zI 0, zR 17 0], M2, cl2)) (u := (63, [some (zR 0 0), some (zI x1), some (zI 0), some (zI (z_chr 0)), some (zI (M.1 15 0 0))], [zI r2, zI 0, zR 17 0], M2, cl2)) rfl h.1 (fun c => ?_) (fun c => ?_)
    · replace h := h.2.1 c
      refine zT.it 3 (t := (73, [some (zR 0 0), some (zI x1), some (zI 0), some (zI (z_chr 0)), some (zI (M.1 15 0 0))], [zI 0, zR 16 0, zI r2, zI 0, zR 17 0], M2, cl2)) rfl ?_
      refine zT.chk (t := (74, [some (zR 0 0), some (zI x1), some (zI 0), some (zI (z_chr 0)), some (zI (M.1 15 0 0))], [zI (M2.1 16 0 0), zI r2, zI 0, zR 17 0], M2, cl2)) rfl (by first | decide | (dsimp only; decide)) ?_
      refine zT.it 1 (t := (75, [some (zR 0 0), some (zI x1), some (zI 0), some (zI (z_chr 0)), some (zI (M.1 15 0 0))], [zI (r2 + (M2.1 16 0 0)), zI 0, zR 17 0], M2, cl2)) rfl ?_
      refine zT.chk (t := (76, [some (zR 0 0), some (zI x1), some (zI 0), some (zI (z_chr 0)), some (zI (M.1 15 0 0))], [], (z_w M2 17 0 0 (r2 + (M2.1 16 0 0))), false)) rfl (by first | decide | (dsimp only; decide)) ?_
      refine zT.it 1 (t := (77, [some (zR 0 0), some (zI x1), some (zI 0), some (zI (z_chr 0)), some (zI (M.1 15 0 0))], [zI x1], (z_w M2 17 0 0 (r2 + (M2.1 16 0 0))), false)) rfl ?_
      refine zT.br (g := zr x1) (p := ¬ x1 = 0) (t := (91, [some (zR 0 0), some (zI x1), some (zI 0), some (zI (z_chr 0)), some (zI (M.1 15 0 0))], [], (z_w M2 17 0 0 (r2 + (M2.1 16 0 0))), false)) (u := (80, [some (zR 0 0), some (zI x1), some (zI 0), some (zI (z_chr 0)), some (zI (M.1 15 0 0))], [], (z_w M2 17 0 0 (r2 + (M2.1 16 0 0))), false)) rfl h.1 (fun c => ?_) (fun c => ?_)
      · replace h := h.2.1 c
        refine zT.it 5 (t := (4, [some (zR 0 0), some (zI 1), some (zI 1), some (zI (z_chr 0)), some (zI (M.1 15 0 0))], [], (z_w M2 17 0 0 (r2 + (M2.1 16 0 0))), false)) rfl ?_
        exact h
      · replace h := h.2.2 (Decidable.not_not.1 c)
        refine zT.it 3 (t := (85, [some (zR 0 0), some (zI x1), some (zI 0), some (zI (z_chr 0)), some (zI (M.1 15 0 0))], [zI 0, zR 17 0], (z_w M2 17 0 0 (r2 + (M2.1 16 0 0))), false)) rfl ?_
        refine zT.chk (t := (86, [some (zR 0 0), some (zI x1), some (zI 0), some (zI (z_chr 0)), some (zI (M.1 15 0 0))], [zI (r2 + (M2.1 16 0 0))], (z_w M2 17 0 0 (r2 + (M2.1 16 0 0))), false)) rfl (by first | decide | (dsimp only; decide)) ?_
        refine zT.it 1 (t := (88, [some (zR 0 0), some (zI x1), some (zI 0), some (zI (z_chr 0)), some (zI (M.1 15 0 0))], [zI (M.1 15 0 0), zI (r2 + (M2.1 16 0 0))], (z_w M2 17 0 0 (r2 + (M2.1 16 0 0))), false)) rfl ?_
        refine zT.br (g := zr (r2 + (M2.1 16 0 0)) ∧ zr (M.1 15 0 0)) (p := (r2 + (M2.1 16 0 0)) = (M.1 15 0 0)) (t := (95, [some (zR 0 0), some (zI x1), some (zI 0), some (zI (z_chr 0)), some (zI (M.1 15 0 0))], [], (z_w M2 17 0 0 (r2 + (M2.1 16 0 0))), false)) (u := (91, [some (zR 0 0), some (zI x1), some (zI 0), some (zI (z_chr 0)), some (zI (M.1 15 0 0))], [], (z_w M2 17 0 0 (r2 + (M2.1 16 0 0))), false)) rfl h.1 (fun c => ?_) (fun c => ?_)
        · replace h := h.2.1 c
          refine zT.it 4 (t := (4, [some (zR 0 0), some (zI 0), some (zI 1), some (zI (z_chr 0)), some (zI (M.1 15 0 0))], [], (z_w M2 17 0 0 (r2 + (M2.1 16 0 0))), false)) rfl ?_
          exact h
        · replace h := h.2.2 c
          refine zT.it 5 (t := (4, [some (zR 0 0), some (zI 1), some (zI 1), some (zI (z_chr 0)), some (zI (M.1 15 0 0))], [], (z_w M2 17 0 0 (r2 + (M2.1 16 0 0))), false)) rfl ?_
          exact h
    · replace h := h.2.2 c
      refine zT.it 3 (t := (75, [some (zR 0 0), some (zI x1), some (zI 0), some (zI (z_chr 0)), some (zI (M.1 15 0 0))], [zI (r2 + (M.1 15 0 0)), zI 0, zR 17 0], M2, cl2)) rfl ?_
      refine zT.chk (t := (76, [some (zR 0 0), some (zI x1), some (zI 0), some (zI (z_chr 0)), some (zI (M.1 15 0 0))], [], (z_w M2 17 0 0 (r2 + (M.1 15 0 0))), false)) rfl (by first | decide | (dsimp only; decide)) ?_
      refine zT.it 1 (t := (77, [some (zR 0 0), some (zI x1), some (zI 0), some (zI (z_chr 0)), some (zI (M.1 15 0 0))], [zI x1], (z_w M2 17 0 0 (r2 + (M.1 15 0 0))), false)) rfl ?_
      refine zT.br (g := zr x1) (p := ¬ x1 = 0) (t := (91, [some (zR 0 0), some (zI x1), some (zI 0), some (zI (z_chr 0)), some (zI (M.1 15 0 0))], [], (z_w M2 17 0 0 (r2 + (M.1 15 0 0))), false)) (u := (80, [some (zR 0 0), some (zI x1), some (zI 0), some (zI (z_chr 0)), some (zI (M.1 15 0 0))], [], (z_w M2 17 0 0 (r2 + (M.1 15 0 0))), false)) rfl h.1 (fun c => ?_) (fun c => ?_)
      · replace h := h.2.1 c
        refine zT.it 5 (t := (4, [some (zR 0 0), some (zI 1), some (zI 1), some (zI (z_chr 0)), some (zI (M.1 15 0 0))], [], (z_w M2 17 0 0 (r2 + (M.1 15 0 0))), false)) rfl ?_
        exact h
      · replace h := h.2.2 (Decidable.not_not.1 c)
        refine zT.it 3 (t := (85, [some (zR 0 0), some (zI x1), some (zI 0), some (zI (z_chr 0)), some (zI (M.1 15 0 0))], [zI 0, zR 17 0], (z_w M2 17 0 0 (r2 + (M.1 15 0 0))), false)) rfl ?_
        refine zT.chk (t := (86, [some (zR 0 0), some (zI x1), some (zI 0), some (zI (z_chr 0)), some (zI (M.1 15 0 0))], [zI (r2 + (M.1 15 0 0))], (z_w M2 17 0 0 (r2 + (M.1 15 0 0))), false)) rfl (by first | decide | (dsimp only; decide)) ?_
        refine zT.it 1 (t := (88, [some (zR 0 0), some (zI x1), some (zI 0), some (zI (z_chr 0)), some (zI (M.1 15 0 0))], [zI (M.1 15 0 0), zI (r2 + (M.1 15 0 0))], (z_w M2 17 0 0 (r2 + (M.1 15 0 0))), false)) rfl ?_
        refine zT.br (g := zr (r2 + (M.1 15 0 0)) ∧ zr (M.1 15 0 0)) (p := (r2 + (M.1 15 0 0)) = (M.1 15 0 0)) (t := (95, [some (zR 0 0), some (zI x1), some (zI 0), some (zI (z_chr 0)), some (zI (M.1 15 0 0))], [], (z_w M2 17 0 0 (r2 + (M.1 15 0 0))), false)) (u := (91, [some (zR 0 0), some (zI x1), some (zI 0), some (zI (z_chr 0)), some (zI (M.1 15 0 0))], [], (z_w M2 17 0 0 (r2 + (M.1 15 0 0))), false)) rfl h.1 (fun c => ?_) (fun c => ?_)
        · replace h := h.2.1 c
          refine zT.it 4 (t := (4, [some (zR 0 0), some (zI 0), some (zI 1), some (zI (z_chr 0)), some (zI (M.1 15 0 0))], [], (z_w M2 17 0 0 (r2 + (M.1 15 0 0))), false)) rfl ?_
          exact h
        · replace h := h.2.2 c
          refine zT.it 5 (t := (4, [some (zR 0 0), some (zI 1), some (zI 1), some (zI (z_chr 0)), some (zI (M.1 15 0 0))], [], (z_w M2 17 0 0 (r2 + (M.1 15 0 0))), false)) rfl ?_
          exact h
theorem g26_4a1 {x1 : Int} {u3 : Option zV} {u4 : Option zV} {M : zM} {cl : Bool} {Q : zQ} (h : zF 20 [zR 6 0, zI (z_chr 1)] (z_w M 17 0 1 (M.1 15 0 1)) (fun v M3 => ∃ r3 : Int, v = some (zI r3) ∧ ∀ cl3 : Bool, (zr r3) ∧ ((r3 = 0 → (zr x1) ∧ ((¬ x1 = 0 → zT 26 (4, [some (zR 0 0), some (zI 1), some (zI 2), some (zI (z_chr 1)), some (zI (M.1 15 0 1))], [], M3, cl3) Q) ∧ (x1 = 0 → (zr (M3.1 17 0 1) ∧ zr (M.1 15 0 1)) ∧ (((M3.1 17 0 1) = (M.1 15 0 1) → zT 26 (4, [some (zR 0 0), some (zI 0), some (zI 2), some (zI (z_chr 1)), some (zI (M.1 15 0 1))], [], M3, cl3) Q) ∧ (¬ ((M3.1 17 0 1) = (M.1 15 0 1)) → zT 26 (4, [some (zR 0 0), some (zI 1), some (zI 2), some (zI (z_chr 1)), some (zI (M.1 15 0 1))], [], M3, cl3) Q))))) ∧ (¬ (r3 = 0) → zF 22 [zR 6 0, zI (z_chr 1)] M3 (fun v M4 => ∃ r4 : Int, v = some (zI r4) ∧ ∀ cl4 : Bool, (zr (M4.1 0 0 12)) ∧ (((M4.1 0 0 12) = 0 → (zr x1) ∧ ((¬ x1 = 0 → zT 26 (4, [some (zR 0 0), some (zI 1), some (zI 2), some (zI (z_chr 1)), some (zI (M.1 15 0 1))], [], (z_w M4 17 0 1 (r4 + (M4.1 16 0 1))), false) Q) ∧ (x1 = 0 → (zr (r4 + (M4.1 16 0 1)) ∧ zr (M.1 15 0 1)) ∧ (((r4 + (M4.1 16 0 1)) = (M.1 15 0 1) → zT 26 (4, [some (zR 0 0), some (zI 0), some (zI 2), some (zI (z_chr 1)), some (zI (M.1 15 0 1))], [], (z_w M4 17 0 1 (r4 + (M4.1 16 0 1))), false) Q) ∧ (¬ ((r4 + (M4.1 16 0 1)) = (M.1 15 0 1)) → zT 26 (4, [some (zR 0 0), some (zI 1), some (zI 2), some (zI (z_chr 1)), some (zI (M.1 15 0 1))], [], (z_w M4 17 0 1 (r4 + (M4.1 16 0 1))), false) Q))))) ∧ (¬ ((M4.1 0 0 12) = 0) → (zr x1) ∧ ((¬ x1 = 0 → zT 26 (4, [some (zR 0 0), some (zI 1), some (zI 2), some (zI (z_chr 1)), some (zI (M.1 15 0 1))], [], (z_w M4 17 0 1 (r4 + (M.1 15 0 1))), false) Q) ∧ (x1 = 0 → (zr (r4 + (M.1 15 0 1)) ∧ zr (M.1 15 0 1)) ∧ (((r4 + (M.1 15 0 1)) = (M.1 15 0 1) → zT 26 (4, [some (zR 0 0), some (zI 0), some (zI 2), some (zI (z_chr 1)), some (zI (M.1 15 0 1))], [], (z_w M4 17 0 1 (r4 + (M.1 15 0 1))), false) Q) ∧ (¬ ((r4 + (M.1 15 0 1)) = (M.1 15 0 1)) → zT 26 (4, [some (zR 0 0), some (zI 1), some (zI 2), some (zI (z_chr 1)), some (zI (M.1 15 0 1))], [], (z_w M4 17 0 1 (r4 + (M.1 15 0 1))), false) Q))))))))))) : zT 26 (4, [some (zR 0 0), some (zI x1), some (zI 1), u3, u4], [], M, cl) Q := by
  refine zT.it 2 (t := (6, [some (zR 0 0), some (zI x1), some (zI 1), u3, u4], [zI 3, zI 1], M, cl)) rfl ?_
  refine zT.br (g := zr 1 ∧ zr 3) (p := 3 ≤ 1) (t := (103, [some (zR 0 0), some (zI x1), some (zI 1), u3, u4], [], M, cl)) (u := (9, [some (zR 0 0), some (zI x1), some (zI 1), u3, u4], [], M, cl)) rfl (by decide) (fun c => absurd c (by decide)) (fun c => ?_)
  refine zT.it 2 (t := (12, [some (zR 0 0), some (zI x1), some (zI 1), u3, u4], [zI 1, zR 33 0], M, cl)) rfl ?_
  refine zT.chk (t := (15, [some (zR 0 0), some (zI x1), some (zI 1), u3, u4], [zI (z_chr 1)], M, cl)) rfl (by first | decide | (dsimp only; decide)) ?_
  refine zT.it 4 (t := (21, [some (zR 0 0), some (zI x1), some (zI 1), some (zI (z_chr 1)), u4], [zI 1, zR 15 0], M, cl)) rfl ?_
  refine zT.chk (t := (22, [some (zR 0 0), some (zI x1), some (zI 1), some (zI (z_chr 1)), u4], [zI (M.1 15 0 1)], M, cl)) rfl (by first | decide | (dsimp only; decide)) ?_
  refine zT.it 5 (t := (31, [some (zR 0 0), some (zI x1), some (zI 1), some (zI (z_chr 1)), some (zI (M.1 15 0 1))], [zI (M.1 15 0 1), zI 1, zR 17 0], M, cl)) rfl ?_
  refine zT.chk (t := (32, [some (zR 0 0), some (zI x1), some (zI 1), some (zI (z_chr 1)), some (zI (M.1 15 0 1))], [], (z_w M 17 0 1 (M.1 15 0 1)), false)) rfl (by first | decide | (dsimp only; decide)) ?_
  refine zT.it 3 (t := (37, [some (zR 0 0), some (zI x1), some (zI 1), some (zI (z_chr 1)), some (zI (M.1 15 0 1))], [zI (z_chr 1), zR 6 0], (z_w M 17 0 1 (M.1 15 0 1)), false)) rfl ?_
  refine zT.call (m := 20) (as := [zR 6 0, zI (z_chr 1)]) (M := (z_w M 17 0 1 (M.1 15 0 1))) (L := [some (zR 0 0), some (zI x1), some (zI 1), some (zI (z_chr 1)), some (zI (M.1 15 0 1))]) (st := []) (pn := 40) (cl := false) rfl ?_
  refine zF.mono h (fun v M3 h cl3 => ?_)
  obtain ⟨r3, e3, h⟩ := h; subst e3; replace h := h cl3
  show zT 26 (40, [some (zR 0 0), some (zI x1), some (zI 1), some (zI (z_chr 1)), some (zI (M.1 15 0 1))], [zI r3], M3, cl3) _
  refine zT.br (g := zr r3) (p := r3 = 0) (t := (76, [some (zR 0 0), some (zI x1), some (zI 1), some (zI (z_chr 1)), some (zI (M.1 15 0 1))], [], M3, cl3)) (u := (43, [some (zR 0 0), some (zI x1), some (zI 1), some (zI (z_chr 1)), some (zI (M.1 15 0 1))], [], M3, cl3)) rfl h.1 (fun c => ?_) (fun c => ?_)
  · replace h := h.2.1 c
    refine zT.it 1 (t := (77, [some (zR 0 0), some (zI x1), some (zI 1), some (zI (z_chr 1)), some (zI (M.1 15 0 1))], [zI x1], M3, cl3)) rfl ?_
    refine zT.br (g := zr x1) (p := ¬ x1 = 0) (t := (91, [some (zR 0 0), some (zI x1), some (zI 1), some (zI (z_chr 1)), some (zI (M.1 15 0 1))], [], M3, cl3)) (u := (80, [some (zR 0 0), some (zI x1), some (zI 1), some (zI (z_chr 1)), some (zI (M.1 15 0 1))], [], M3, cl3)) rfl h.1 (fun c => ?_) (fun c => ?_)
    · replace h := h.2.1 c
      refine zT.it 5 (t := (4, [some (zR 0 0), some (zI 1), some (zI 2), some (zI (z_chr 1)), some (zI (M.1 15 0 1))], [], M3, cl3)) rfl ?_
      exact h
    · replace h := h.2.2 (Decidable.not_not.1 c)
      refine zT.it 3 (t := (85, [some (zR 0 0), some (zI x1), some (zI 1), some (zI (z_chr 1)), some (zI (M.1 15 0 1))], [zI 1, zR 17 0], M3, cl3)) rfl ?_
      refine zT.chk (t := (86, [some (zR 0 0), some (zI x1), some (zI 1), some (zI (z_chr 1)), some (zI (M.1 15 0 1))], [zI (M3.1 17 0 1)], M3, cl3)) rfl (by first | decide | (dsimp only; decide)) ?_
      refine zT.it 1 (t := (88, [some (zR 0 0), some (zI x1), some (zI 1), some (zI (z_chr 1)), some (zI (M.1 15 0 1))], [zI (M.1 15 0 1), zI (M3.1 17 0 1)], M3, cl3)) rfl ?_
      refine zT.br (g := zr (M3.1 17 0 1) ∧ zr (M.1 15 0 1)) (p := (M3.1 17 0 1) = (M.1 15 0 1)) (t := (95, [some (zR 0 0), some (zI x1), some (zI 1), some (zI (z_chr 1)), some (zI (M.1 15 0 1))], [], M3, cl3)) (u := (91, [some (zR 0 0), some (zI x1), some (zI 1), some (zI (z_chr 1)), some (zI (M.1 15 0 1))], [], M3, cl3)) rfl h.1 (fun c => ?_) (fun c => ?_)
      · replace h := h.2.1 c
        refine zT.it 4 (t := (4, [some (zR 0 0), some (zI 0), some (zI 2), some (zI (z_chr 1)), some (zI (M.1 15 0 1))], [], M3, cl3)) rfl ?_
        exact h
      · replace h := h.2.2 c
        refine zT.it 5 (t := (4, [some (zR 0 0), some (zI 1), some (zI 2), some (zI (z_chr 1)), some (zI (M.1 15 0 1))], [], M3, cl3)) rfl ?_
        exact h
  · replace h := h.2.2 c
    refine zT.it 6 (t := (53, [some (zR 0 0), some (zI x1), some (zI 1), some (zI (z_chr 1)), some (zI (M.1 15 0 1))], [zI (z_chr 1), zR 6 0, zI 1, zR 17 0], M3, cl3)) rfl ?_
    refine zT.call (m := 22) (as := [zR 6 0, zI (z_chr 1)]) (M := M3) (L := [some (zR 0 0), some (zI x1), some (zI 1), some (zI (z_chr 1)), some (zI (M.1 15 0 1))]) (st := [zI 1, zR 17 0]) (pn := 56) (cl := cl3) rfl ?_
    refine zF.mono h (fun v M4 h cl4 => ?_)
    obtain ⟨r4, e4, h⟩ := h; subst e4; replace h := h cl4
    show zT 26 (56, [some (zR 0 0), some (zI x1), some (zI 1), some (zI (z_chr 1)), some (zI (M.1 15 0 1))], [zI r4, zI 1, zR 17 0], M4, cl4) _
    refine zT.it 2 (t := (60, [some (zR 0 0), some (zI x1), some (zI 1), some (zI (z_chr 1)), some (zI (M.1 15 0 1))], [zI (M4.1 0 0 12), zI r4, zI 1, zR 17 0], M4, cl4)) rfl ?_
    refine zT.br (g := zr (M4.1 0 0 12)) (p := (M4.1 0 0 12) = 0) (t := (68, [some (zR 0 0), some (zI x1), some (zI 1), some (zI (z_chr 1)), some (zI (M.1 15 0 1))], [zI r4, zI 1, zR 17 0], M4, cl4)) (u := (63, [some (zR 0 0), some (zI x1), some (zI 1), some (zI (z_chr 1)), some (zI (M.1 15 0 1))], [zI r4, zI 1, zR 17 0], M4, cl4)) rfl h.1 (fun c => ?_) (fun c => ?_)
    · replace h := h.2.1 c
      refine zT.it 3 (t := (73, [some (zR 0 0), some (zI x1), some (zI 1), some (zI (z_chr 1)), some (zI (M.1 15 0 1))], [zI 1, zR 16 0, zI r4, zI 1, zR 17 0], M4, cl4)) rfl ?_
      refine zT.chk (t := (74, [some (zR 0 0), some (zI x1), some (zI 1), some (zI (z_chr 1)), some (zI (M.1 15 0 1))], [zI (M4.1 16 0 1), zI r4, zI 1, zR 17 0], M4, cl4)) rfl (by first | decide | (dsimp only; decide)) ?_
      refine zT.it 1 (t := (75, [some (zR 0 0), some (zI x1), some (zI 1), some (zI (z_chr 1)), some (zI (M.1 15 0 1))], [zI (r4 + (M4.1 16 0 1)), zI 1, zR 17 0], M4, cl4)) rfl ?_
      refine zT.chk (t := (76, [some (zR 0 0), some (zI x1), some (zI 1), some (zI (z_chr 1)), some (zI (M.1 15 0 1))], [], (z_w M4 17 0 1 (r4 + (M4.1 16 0 1))), false)) rfl (by first | decide | (dsimp only; decide)) ?_
      refine zT.it 1 (t := (77, [some (zR 0 0), some (zI x1), some (zI 1), some (zI (z_chr 1)), some (zI (M.1 15 0 1))], [zI x1], (z_w M4 17 0 1 (r4 + (M4.1 16 0 1))), false)) rfl ?_
      refine zT.br (g := zr x1) (p := ¬ x1 = 0) (t := (91, [some (zR 0 0), some (zI x1), some (zI 1), some (zI (z_chr 1)), some (zI (M.1 15 0 1))], [], (z_w M4 17 0 1 (r4 + (M4.1 16 0 1))), false)) (u := (80, [some (zR 0 0), some (zI x1), some (zI 1), some (zI (z_chr 1)), some (zI (M.1 15 0 1))], [], (z_w M4 17 0 1 (r4 + (M4.1 16 0 1))), false)) rfl h.1 (fun c => ?_) (fun c => ?_)
      · replace h := h.2.1 c
        refine zT.it 5 (t := (4, [some (zR 0 0), some (zI 1), some (zI 2), some (zI (z_chr 1)), some (zI (M.1 15 0 1))], [], (z_w M4 17 0 1 (r4 + (M4.1 16 0 1))), false)) rfl ?_
        exact h
      · replace h := h.2.2 (Decidable.not_not.1 c)
        refine zT.it 3 (t := (85, [some (zR 0 0), some (zI x1), some (zI 1), some (zI (z_chr 1)), some (zI (M.1 15 0 1))], [zI 1, zR 17 0], (z_w M4 17 0 1 (r4 + (M4.1 16 0 1))), false)) rfl ?_
        refine zT.chk (t := (86, [some (zR 0 0), some (zI x1), some (zI 1), some (zI (z_chr 1)), some (zI (M.1 15 0 1))], [zI (r4 + (M4.1 16 0 1))], (z_w M4 17 0 1 (r4 + (M4.1 16 0 1))), false)) rfl (by first | decide | (dsimp only; decide)) ?_
        refine zT.it 1 (t := (88, [some (zR 0 0), some (zI x1), some (zI 1), some (zI (z_chr 1)), some (zI (M.1 15 0 1))], [zI (M.1 15 0 1), zI (r4 + (M4.1 16 0 1))], (z_w M4 17 0 1 (r4 + (M4.1 16 0 1))), false)) rfl ?_
        refine zT.br (g := zr (r4 + (M4.1 16 0 1)) ∧ zr (M.1 15 0 1)) (p := (r4 + (M4.1 16 0 1)) = (M.1 15 0 1)) (t := (95, [some (zR 0 0), some (zI x1), some (zI 1), some (zI (z_chr 1)), some (zI (M.1 15 0 1))], [], (z_w M4 17 0 1 (r4 + (M4.1 16 0 1))), false)) (u := (91, [some (zR 0 0), some (zI x1), some (zI 1), some (zI (z_chr 1)), some (zI (M.1 15 0 1))], [], (z_w M4 17 0 1 (r4 + (M4.1 16 0 1))), false)) rfl h.1 (fun c => ?_) (fun c => ?_)
        · replace h := h.2.1 c
          refine zT.it 4 (t := (4, [some (zR 0 0), some (zI 0), some (zI 2), some (zI (z_chr 1)), some (zI (M.1 15 0 1))], [], (z_w M4 17 0 1 (r4 + (M4.1 16 0 1))), false)) rfl ?_
          exact h
        · replace h := h.2.2 c
          refine zT.it 5 (t := (4, [some (zR 0 0), some (zI 1), some (zI 2), some (zI (z_chr 1)), some (zI (M.1 15 0 1))], [], (z_w M4 17 0 1 (r4 + (M4.1 16 0 1))), false)) rfl ?_
          exact h
    · replace h := h.2.2 c
      refine zT.it 3 (t := (75, [some (zR 0 0), some (zI x1), some (zI 1), some (zI (z_chr 1)), some (zI (M.1 15 0 1))], [zI (r4 + (M.1 15 0 1)), zI 1, zR 17 0], M4, cl4)) rfl ?_
      refine zT.chk (t := (76, [some (zR 0 0), some (zI x1), some (zI 1), some (zI (z_chr 1)), some (zI (M.1 15 0 1))], [], (z_w M4 17 0 1 (r4 + (M.1 15 0 1))), false)) rfl (by first | decide | (dsimp only; decide)) ?_
      refine zT.it 1 (t := (77, [some (zR 0 0), some (zI x1), some (zI 1), some (zI (z_chr 1)), some (zI (M.1 15 0 1))], [zI x1], (z_w M4 17 0 1 (r4 + (M.1 15 0 1))), false)) rfl ?_
      refine zT.br (g := zr x1) (p := ¬ x1 = 0) (t := (91, [some (zR 0 0), some (zI x1), some (zI 1), some (zI (z_chr 1)), some (zI (M.1 15 0 1))], [], (z_w M4 17 0 1 (r4 + (M.1 15 0 1))), false)) (u := (80, [some (zR 0 0), some (zI x1), some (zI 1), some (zI (z_chr 1)), some (zI (M.1 15 0 1))], [], (z_w M4 17 0 1 (r4 + (M.1 15 0 1))), false)) rfl h.1 (fun c => ?_) (fun c => ?_)
      · replace h := h.2.1 c
        refine zT.it 5 (t := (4, [some (zR 0 0), some (zI 1), some (zI 2), some (zI (z_chr 1)), some (zI (M.1 15 0 1))], [], (z_w M4 17 0 1 (r4 + (M.1 15 0 1))), false)) rfl ?_
        exact h
      · replace h := h.2.2 (Decidable.not_not.1 c)
        refine zT.it 3 (t := (85, [some (zR 0 0), some (zI x1), some (zI 1), some (zI (z_chr 1)), some (zI (M.1 15 0 1))], [zI 1, zR 17 0], (z_w M4 17 0 1 (r4 + (M.1 15 0 1))), false)) rfl ?_
        refine zT.chk (t := (86, [some (zR 0 0), some (zI x1), some (zI 1), some (zI (z_chr 1)), some (zI (M.1 15 0 1))], [zI (r4 + (M.1 15 0 1))], (z_w M4 17 0 1 (r4 + (M.1 15 0 1))), false)) rfl (by first | decide | (dsimp only; decide)) ?_
        refine zT.it 1 (t := (88, [some (zR 0 0), some (zI x1), some (zI 1), some (zI (z_chr 1)), some (zI (M.1 15 0 1))], [zI (M.1 15 0 1), zI (r4 + (M.1 15 0 1))], (z_w M4 17 0 1 (r4 + (M.1 15 0 1))), false)) rfl ?_
        refine zT.br (g := zr (r4 + (M.1 15 0 1)) ∧ zr (M.1 15 0 1)) (p := (r4 + (M.1 15 0 1)) = (M.1 15 0 1)) (t := (95, [some (zR 0 0), some (zI x1), some (zI 1), some (zI (z_chr 1)), some (zI (M.1 15 0 1))], [], (z_w M4 17 0 1 (r4 + (M.1 15 0 1))), false)) (u := (91, [some (zR 0 0), some (zI x1), some (zI 1), some (zI (z_chr 1)), some (zI (M.1 15 0 1))], [], (z_w M4 17 0 1 (r4 + (M.1 15 0 1))), false)) rfl h.1 (fun c => ?_) (fun c => ?_)
        · replace h := h.2.1 c
          refine zT.it 4 (t := (4, [some (zR 0 0), some (zI 0), some (zI 2), some (zI (z_chr 1)), some (zI (M.1 15 0 1))], [], (z_w M4 17 0 1 (r4 + (M.1 15 0 1))), false)) rfl ?_
          exact h
        · replace h := h.2.2 c
          refine zT.it 5 (t := (4, [some (zR 0 0), some (zI 1), some (zI 2), some (zI (z_chr 1)), some (zI (M.1 15 0 1))], [], (z_w M4 17 0 1 (r4 + (M.1 15 0 1))), false)) rfl ?_
          exact h
theorem g26_4a2 {x1 : Int} {u3 : Option zV} {u4 : Option zV} {M : zM} {cl : Bool} {Q : zQ} (h : zF 20 [zR 6 0, zI (z_chr 2)] (z_w M 17 0 2 (M.1 15 0 2)) (fun v M5 => ∃ r5 : Int, v = some (zI r5) ∧ ∀ cl5 : Bool, (zr r5) ∧ ((r5 = 0 → (zr x1) ∧ ((¬ x1 = 0 → zT 26 (4, [some (zR 0 0), some (zI 1), some (zI 3), some (zI (z_chr 2)), some (zI (M.1 15 0 2))], [], M5, cl5) Q) ∧ (x1 = 0 → (zr (M5.1 17 0 2) ∧ zr (M.1 15 0 2)) ∧ (((M5.1 17 0 2) = (M.1 15 0 2) → zT 26 (4, [some (zR 0 0), some (zI 0), some (zI 3), some (zI (z_chr 2)), some (zI (M.1 15 0 2))], [], M5, cl5) Q) ∧ (¬ ((M5.1 17 0 2) = (M.1 15 0 2)) → zT 26 (4, [some (zR 0 0), some (zI 1), some (zI 3), some (zI (z_chr 2)), some (zI (M.1 15 0 2))], [], M5, cl5) Q))))) ∧ (¬ (r5 = 0) → zF 22 [zR 6 0, zI (z_chr 2)] M5 (fun v M6 => ∃ r6 : Int, v = some (zI r6) ∧ ∀ cl6 : Bool, (zr (M6.1 0 0 12)) ∧ (((M6.1 0 0 12) = 0 → (zr x1) ∧ ((¬ x1 = 0 → zT 26 (4, [some (zR 0 0), some (zI 1), some (zI 3), some (zI (z_chr 2)), some (zI (M.1 15 0 2))], [], (z_w M6 17 0 2 (r6 + (M6.1 16 0 2))), false) Q) ∧ (x1 = 0 → (zr (r6 + (M6.1 16 0 2)) ∧ zr (M.1 15 0 2)) ∧ (((r6 + (M6.1 16 0 2)) = (M.1 15 0 2) → zT 26 (4, [some (zR 0 0), some (zI 0), some (zI 3), some (zI (z_chr 2)), some (zI (M.1 15 0 2))], [], (z_w M6 17 0 2 (r6 + (M6.1 16 0 2))), false) Q) ∧ (¬ ((r6 + (M6.1 16 0 2)) = (M.1 15 0 2)) → zT 26 (4, [some (zR 0 0), some (zI 1), some (zI 3), some (zI (z_chr 2)), some (zI (M.1 15 0 2))], [], (z_w M6 17 0 2 (r6 + (M6.1 16 0 2))), false) Q))))) ∧ (¬ ((M6.1 0 0 12) = 0) → (zr x1) ∧ ((¬ x1 = 0 → zT 26 (4, [some (zR 0 0), some (zI 1), some (zI 3), some (zI (z_chr 2)), some (zI (M.1 15 0 2))], [], (z_w M6 17 0 2 (r6 + (M.1 15 0 2))), false) Q) ∧ (x1 = 0 → (zr (r6 + (M.1 15 0 2)) ∧ zr (M.1 15 0 2)) ∧ (((r6 + (M.1 15 0 2)) = (M.1 15 0 2) → zT 26 (4, [some (zR 0 0), some (zI 0), some (zI 3), some (zI (z_chr 2)), some (zI (M.1 15 0 2))], [], (z_w M6 17 0 2 (r6 + (M.1 15 0 2))), false) Q) ∧ (¬ ((r6 + (M.1 15 0 2)) = (M.1 15 0 2)) → zT 26 (4, [some (zR 0 0), some (zI 1), some (zI 3), some (zI (z_chr 2)), some (zI (M.1 15 0 2))], [], (z_w M6 17 0 2 (r6 + (M.1 15 0 2))), false) Q))))))))))) : zT 26 (4, [some (zR 0 0), some (zI x1), some (zI 2), u3, u4], [], M, cl) Q := by
  refine zT.it 2 (t := (6, [some (zR 0 0), some (zI x1), some (zI 2), u3, u4], [zI 3, zI 2], M, cl)) rfl ?_
  refine zT.br (g := zr 2 ∧ zr 3) (p := 3 ≤ 2) (t := (103, [some (zR 0 0), some (zI x1), some (zI 2), u3, u4], [], M, cl)) (u := (9, [some (zR 0 0), some (zI x1), some (zI 2), u3, u4], [], M, cl)) rfl (by decide) (fun c => absurd c (by decide)) (fun c => ?_)
  refine zT.it 2 (t := (12, [some (zR 0 0), some (zI x1), some (zI 2), u3, u4], [zI 2, zR 33 0], M, cl)) rfl ?_
  refine zT.chk (t := (15, [some (zR 0 0), some (zI x1), some (zI 2), u3, u4], [zI (z_chr 2)], M, cl)) rfl (by first | decide | (dsimp only; decide)) ?_
  refine zT.it 4 (t := (21, [some (zR 0 0), some (zI x1), some (zI 2), some (zI (z_chr 2)), u4], [zI 2, zR 15 0], M, cl)) rfl ?_
  refine zT.chk (t := (22, [some (zR 0 0), some (zI x1), some (zI 2), some (zI (z_chr 2)), u4], [zI (M.1 15 0 2)], M, cl)) rfl (by first | decide | (dsimp only; decide)) ?_
  refine zT.it 5 (t := (31, [some (zR 0 0), some (zI x1), some (zI 2), some (zI (z_chr 2)), some (zI (M.1 15 0 2))], [zI (M.1 15 0 2), zI 2, zR 17 0], M, cl)) rfl ?_
  refine zT.chk (t := (32, [some (zR 0 0), some (zI x1), some (zI 2), some (zI (z_chr 2)), some (zI (M.1 15 0 2))], [], (z_w M 17 0 2 (M.1 15 0 2)), false)) rfl (by first | decide | (dsimp only; decide)) ?_
  refine zT.it 3 (t := (37, [some (zR 0 0), some (zI x1), some (zI 2), some (zI (z_chr 2)), some (zI (M.1 15 0 2))], [zI (z_chr 2), zR 6 0], (z_w M 17 0 2 (M.1 15 0 2)), false)) rfl ?_
  refine zT.call (m := 20) (as := [zR 6 0, zI (z_chr 2)]) (M := (z_w M 17 0 2 (M.1 15 0 2))) (L := [some (zR 0 0), some (zI x1), some (zI 2), some (zI (z_chr 2)), some (zI (M.1 15 0 2))]) (st := []) (pn := 40) (cl := false) rfl ?_
  refine zF.mono h (fun v M5 h cl5 => ?_)
  obtain ⟨r5, e5, h⟩ := h; subst e5; replace h := h cl5
  show zT 26 (40, [some (zR 0 0), some (zI x1), some (zI 2), some (zI (z_chr 2)), some (zI (M.1 15 0 2))], [zI r5], M5, cl5) _
  refine zT.br (g := zr r5) (p := r5 = 0) (t := (76, [some (zR 0 0), some (zI x1), some (zI 2), some (zI (z_chr 2)), some (zI (M.1 15 0 2))], [], M5, cl5)) (u := (43, [some (zR 0 0), some (zI x1), some (zI 2), some (zI (z_chr 2)), some (zI (M.1 15 0 2))], [], M5, cl5)) rfl h.1 (fun c => ?_) (fun c => ?_)
  · replace h := h.2.1 c
    refine zT.it 1 (t := (77, [some (zR 0 0), some (zI x1), some (zI 2), some (zI (z_chr 2)), some (zI (M.1 15 0 2))], [zI x1], M5, cl5)) rfl ?_
    refine zT.br (g := zr x1) (p := ¬ x1 = 0) (t := (91, [some (zR 0 0), some (zI x1), some (zI 2), some (zI (z_chr 2)), some (zI (M.1 15 0 2))], [], M5, cl5)) (u := (80, [some (zR 0 0), some (zI x1), some (zI 2), some (zI (z_chr 2)), some (zI (M.1 15 0 2))], [], M5, cl5)) rfl h.1 (fun c => ?_) (fun c => ?_)
    · replace h := h.2.1 c
      refine zT.it 5 (t := (4, [some (zR 0 0), some (zI 1), some (zI 3), some (zI (z_chr 2)), some (zI (M.1 15 0 2))], [], M5, cl5)) rfl ?_
      exact h
    · replace h := h.2.2 (Decidable.not_not.1 c)
      refine zT.it 3 (t := (85, [some (zR 0 0), some (zI x1), some (zI 2), some (zI (z_chr 2)), some (zI (M.1 15 0 2))], [zI 2, zR 17 0], M5, cl5)) rfl ?_
      refine zT.chk (t := (86, [some (zR 0 0), some (zI x1), some (zI 2), some (zI (z_chr 2)), some (zI (M.1 15 0 2))], [zI (M5.1 17 0 2)], M5, cl5)) rfl (by first | decide | (dsimp only; decide)) ?_
      refine zT.it 1 (t := (88, [some (zR 0 0), some (zI x1), some (zI 2), some (zI (z_chr 2)), some (zI (M.1 15 0 2))], [zI (M.1 15 0 2), zI (M5.1 17 0 2)], M5, cl5)) rfl ?_
      refine zT.br (g := zr (M5.1 17 0 2) ∧ zr (M.1 15 0 2)) (p := (M5.1 17 0 2) = (M.1 15 0 2)) (t := (95, [some (zR 0 0), some (zI x1), some (zI 2), some (zI (z_chr 2)), some (zI (M.1 15 0 2))], [], M5, cl5)) (u := (91, [some (zR 0 0), some (zI x1), some (zI 2), some (zI (z_chr 2)), some (zI (M.1 15 0 2))], [], M5, cl5)) rfl h.1 (fun c => ?_) (fun c => ?_)
      · replace h := h.2.1 c
        refine zT.it 4 (t := (4, [some (zR 0 0), some (zI 0), some (zI 3), some (zI (z_chr 2)), some (zI (M.1 15 0 2))], [], M5, cl5)) rfl ?_
        exact h
      · replace h := h.2.2 c
        refine zT.it 5 (t := (4, [some (zR 0 0), some (zI 1), some (zI 3), some (zI (z_chr 2)), some (zI (M.1 15 0 2))], [], M5, cl5)) rfl ?_
        exact h
  · replace h := h.2.2 c
    refine zT.it 6 (t := (53, [some (zR 0 0), some (zI x1), some (zI 2), some (zI (z_chr 2)), some (zI (M.1 15 0 2))], [zI (z_chr 2), zR 6 0, zI 2, zR 17 0], M5, cl5)) rfl ?_
    refine zT.call (m := 22) (as := [zR 6 0, zI (z_chr 2)]) (M := M5) (L := [some (zR 0 0), some (zI x1), some (zI 2), some (zI (z_chr 2)), some (zI (M.1 15 0 2))]) (st := [zI 2, zR 17 0]) (pn := 56) (cl := cl5) rfl ?_
    refine zF.mono h (fun v M6 h cl6 => ?_)
    obtain ⟨r6, e6, h⟩ := h; subst e6; replace h := h cl6
    show zT 26 (56, [some (zR 0 0), some (zI x1), some (zI 2), some (zI (z_chr 2)), some (zI (M.1 15 0 2))], [zI r6, zI 2, zR 17 0], M6, cl6) _
    refine zT.it 2 (t := (60, [some (zR 0 0), some (zI x1), some (zI 2), some (zI (z_chr 2)), some (zI (M.1 15 0 2))], [zI (M6.1 0 0 12), zI r6, zI 2, zR 17 0], M6, cl6)) rfl ?_
    refine zT.br (g := zr (M6.1 0 0 12)) (p := (M6.1 0 0 12) = 0) (t := (68, [some (zR 0 0), some (zI x1), some (zI 2), some (zI (z_chr 2)), some (zI (M.1 15 0 2))], [zI r6, zI 2, zR 17 0], M6, cl6)) (u := (63, [some (zR 0 0), some (zI x1), some (zI 2), some (zI (z_chr 2)), some (zI (M.1 15 0 2))], [zI r6, zI 2, zR 17 0], M6, cl6)) rfl h.1 (fun c => ?_) (fun c => ?_)
    · replace h := h.2.1 c
      refine zT.it 3 (t := (73, [some (zR 0 0), some (zI x1), some (zI 2), some (zI (z_chr 2)), some (zI (M.1 15 0 2))], [zI 2, zR 16 0, zI r6, zI 2, zR 17 0], M6, cl6)) rfl ?_
      refine zT.chk (t := (74, [some (zR 0 0), some (zI x1), some (zI 2), some (zI (z_chr 2)), some (zI (M.1 15 0 2))], [zI (M6.1 16 0 2), zI r6, zI 2, zR 17 0], M6, cl6)) rfl (by first | decide | (dsimp only; decide)) ?_
      refine zT.it 1 (t := (75, [some (zR 0 0), some (zI x1), some (zI 2), some (zI (z_chr 2)), some (zI (M.1 15 0 2))], [zI (r6 + (M6.1 16 0 2)), zI 2, zR 17 0], M6, cl6)) rfl ?_
      refine zT.chk (t := (76, [some (zR 0 0), some (zI x1), some (zI 2), some (zI (z_chr 2)), some (zI (M.1 15 0 2))], [], (z_w M6 17 0 2 (r6 + (M6.1 16 0 2))), false)) rfl (by first | decide | (dsimp only; decide)) ?_
      refine zT.it 1 (t := (77, [some (zR 0 0), some (zI x1), some (zI 2), some (zI (z_chr 2)), some (zI (M.1 15 0 2))], [zI x1], (z_w M6 17 0 2 (r6 + (M6.1 16 0 2))), false)) rfl ?_
      refine zT.br (g := zr x1) (p := ¬ x1 = 0) (t := (91, [some (zR 0 0), some (zI x1), some (zI 2), some (zI (z_chr 2)), some (zI (M.1 15 0 2))], [], (z_w M6 17 0 2 (r6 + (M6.1 16 0 2))), false)) (u := (80, [some (zR 0 0), some (zI x1), some (zI 2), some (zI (z_chr 2)), some (zI (M.1 15 0 2))], [], (z_w M6 17 0 2 (r6 + (M6.1 16 0 2))), false)) rfl h.1 (fun c => ?_) (fun c => ?_)
      · replace h := h.2.1 c
        refine zT.it 5 (t := (4, [some (zR 0 0), some (zI 1), some (zI 3), some (zI (z_chr 2)), some (zI (M.1 15 0 2))], [], (z_w M6 17 0 2 (r6 + (M6.1 16 0 2))), false)) rfl ?_
        exact h
      · replace h := h.2.2 (Decidable.not_not.1 c)
        refine zT.it 3 (t := (85, [some (zR 0 0), some (zI x1), some (zI 2), some (zI (z_chr 2)), some (zI (M.1 15 0 2))], [zI 2, zR 17 0], (z_w M6 17 0 2 (r6 + (M6.1 16 0 2))), false)) rfl ?_
        refine zT.chk (t := (86, [some (zR 0 0), some (zI x1), some (zI 2), some (zI (z_chr 2)), some (zI (M.1 15 0 2))], [zI (r6 + (M6.1 16 0 2))], (z_w M6 17 0 2 (r6 + (M6.1 16 0 2))), false)) rfl (by first | decide | (dsimp only; decide)) ?_
        refine zT.it 1 (t := (88, [some (zR 0 0), some (zI x1), some (zI 2), some (zI (z_chr 2)), some (zI (M.1 15 0 2))], [zI (M.1 15 0 2), zI (r6 + (M6.1 16 0 2))], (z_w M6 17 0 2 (r6 + (M6.1 16 0 2))), false)) rfl ?_
        refine zT.br (g := zr (r6 + (M6.1 16 0 2)) ∧ zr (M.1 15 0 2)) (p := (r6 + (M6.1 16 0 2)) = (M.1 15 0 2)) (t := (95, [some (zR 0 0), some (zI x1), some (zI 2), some (zI (z_chr 2)), some (zI (M.1 15 0 2))], [], (z_w M6 17 0 2 (r6 + (M6.1 16 0 2))), false)) (u := (91, [some (zR 0 0), some (zI x1), some (zI 2), some (zI (z_chr 2)), some (zI (M.1 15 0 2))], [], (z_w M6 17 0 2 (r6 + (M6.1 16 0 2))), false)) rfl h.1 (fun c => ?_) (fun c => ?_)
        · replace h := h.2.1 c
          refine zT.it 4 (t := (4, [some (zR 0 0), some (zI 0), some (zI 3), some (zI (z_chr 2)), some (zI (M.1 15 0 2))], [], (z_w M6 17 0 2 (r6 + (M6.1 16 0 2))), false)) rfl ?_
          exact h
        · replace h := h.2.2 c
          refine zT.it 5 (t := (4, [some (zR 0 0), some (zI 1), some (zI 3), some (zI (z_chr 2)), some (zI (M.1 15 0 2))], [], (z_w M6 17 0 2 (r6 + (M6.1 16 0 2))), false)) rfl ?_
          exact h
    · replace h := h.2.2 c
      refine zT.it 3 (t := (75, [some (zR 0 0), some (zI x1), some (zI 2), some (zI (z_chr 2)), some (zI (M.1 15 0 2))], [zI (r6 + (M.1 15 0 2)), zI 2, zR 17 0], M6, cl6)) rfl ?_
      refine zT.chk (t := (76, [some (zR 0 0), some (zI x1), some (zI 2), some (zI (z_chr 2)), some (zI (M.1 15 0 2))], [], (z_w M6 17 0 2 (r6 + (M.1 15 0 2))), false)) rfl (by first | decide | (dsimp only; decide)) ?_
      refine zT.it 1 (t := (77, [some (zR 0 0), some (zI x1), some (zI 2), some (zI (z_chr 2)), some (zI (M.1 15 0 2))], [zI x1], (z_w M6 17 0 2 (r6 + (M.1 15 0 2))), false)) rfl ?_
      refine zT.br (g := zr x1) (p := ¬ x1 = 0) (t := (91, [some (zR 0 0), some (zI x1), some (zI 2), some (zI (z_chr 2)), some (zI (M.1 15 0 2))], [], (z_w M6 17 0 2 (r6 + (M.1 15 0 2))), false)) (u := (80, [some (zR 0 0), some (zI x1), some (zI 2), some (zI (z_chr 2)), some (zI (M.1 15 0 2))], [], (z_w M6 17 0 2 (r6 + (M.1 15 0 2))), false)) rfl h.1 (fun c => ?_) (fun c => ?_)
      · replace h := h.2.1 c
        refine zT.it 5 (t := (4, [some (zR 0 0), some (zI 1), some (zI 3), some (zI (z_chr 2)), some (zI (M.1 15 0 2))], [], (z_w M6 17 0 2 (r6 + (M.1 15 0 2))), false)) rfl ?_
        exact h
      · replace h := h.2.2 (Decidable.not_not.1 c)
        refine zT.it 3 (t := (85, [some (zR 0 0), some (zI x1), some (zI 2), some (zI (z_chr 2)), some (zI (M.1 15 0 2))], [zI 2, zR 17 0], (z_w M6 17 0 2 (r6 + (M.1 15 0 2))), false)) rfl ?_
        refine zT.chk (t := (86, [some (zR 0 0), some (zI x1), some (zI 2), some (zI (z_chr 2)), some (zI (M.1 15 0 2))], [zI (r6 + (M.1 15 0 2))], (z_w M6 17 0 2 (r6 + (M.1 15 0 2))), false)) rfl (by first | decide | (dsimp only; decide)) ?_
        refine zT.it 1 (t := (88, [some (zR 0 0), some (zI x1), some (zI 2), some (zI (z_chr 2)), some (zI (M.1 15 0 2))], [zI (M.1 15 0 2), zI (r6 + (M.1 15 0 2))], (z_w M6 17 0 2 (r6 + (M.1 15 0 2))), false)) rfl ?_
        refine zT.br (g := zr (r6 + (M.1 15 0 2)) ∧ zr (M.1 15 0 2)) (p := (r6 + (M.1 15 0 2)) = (M.1 15 0 2)) (t := (95, [some (zR 0 0), some (zI x1), some (zI 2), some (zI (z_chr 2)), some (zI (M.1 15 0 2))], [], (z_w M6 17 0 2 (r6 + (M.1 15 0 2))), false)) (u := (91, [some (zR 0 0), some (zI x1), some (zI 2), some (zI (z_chr 2)), some (zI (M.1 15 0 2))], [], (z_w M6 17 0 2 (r6 + (M.1 15 0 2))), false)) rfl h.1 (fun c => ?_) (fun c => ?_)
        · replace h := h.2.1 c
          refine zT.it 4 (t := (4, [some (zR 0 0), some (zI 0), some (zI 3), some (zI (z_chr 2)), some (zI (M.1 15 0 2))], [], (z_w M6 17 0 2 (r6 + (M.1 15 0 2))), false)) rfl ?_
          exact h
        · replace h := h.2.2 c
          refine zT.it 5 (t := (4, [some (zR 0 0), some (zI 1), some (zI 3), some (zI (z_chr 2)), some (zI (M.1 15 0 2))], [], (z_w M6 17 0 2 (r6 + (M.1 15 0 2))), false)) rfl ?_
          exact h
theorem g26_4a3 {x1 : Int} {u3 : Option zV} {u4 : Option zV} {M : zM} {cl : Bool} {Q : zQ} (h : (x1 = 0 ∨ x1 = 1) ∧ Q (.inl (some (zI x1))) M cl 0) : zT 26 (4, [some (zR 0 0), some (zI x1), some (zI 3), u3, u4], [], M, cl) Q := by
  refine zT.it 2 (t := (6, [some (zR 0 0), some (zI x1), some (zI 3), u3, u4], [zI 3, zI 3], M, cl)) rfl ?_
  refine zT.br (g := zr 3 ∧ zr 3) (p := 3 ≤ 3) (t := (103, [some (zR 0 0), some (zI x1), some (zI 3), u3, u4], [], M, cl)) (u := (9, [some (zR 0 0), some (zI x1), some (zI 3), u3, u4], [], M, cl)) rfl (by decide) (fun c => ?_) (fun c => absurd (by decide) c)
  refine zT.it 1 (t := (104, [some (zR 0 0), some (zI x1), some (zI 3), u3, u4], [zI x1], M, cl)) rfl ?_
  exact zT.ret (p := x1 = 0 ∨ x1 = 1) (v := some (zI x1)) rfl h.1 h.2
theorem g27_0 {a1 : Int} {M : zM} {Q : zQ} (h : (zr a1) ∧ ((0 ≤ a1 → Q (.inl (some (zI a1))) M true 0) ∧ (¬ (0 ≤ a1) → Q (.inl (some (zI (-a1)))) M true 0))) : zT 27 (0, [some (zI a1)], [], M, true) Q := by
  refine zT.it 1 (t := (1, [some (zI a1)], [zI a1], M, true)) rfl ?_
  refine zT.br (g := zr a1) (p := 0 ≤ a1) (t := (9, [some (zI a1)], [], M, true)) (u := (4, [some (zI a1)], [], M, true)) rfl h.1 (fun c => ?_) (fun c => ?_)
  · replace h := h.2.1 c
    refine zT.it 1 (t := (10, [some (zI a1)], [zI a1], M, true)) rfl ?_
    exact zT.ret (v := some (zI a1)) rfl (by first | exact trivial | decide) h
  · replace h := h.2.2 c
    refine zT.it 3 (t := (10, [some (zI a1)], [zI (-a1)], M, true)) rfl ?_
    exact zT.ret (v := some (zI (-a1))) rfl (by first | exact trivial | decide) h
theorem g28_0 {M : zM} {Q : zQ} (h : zT 28 (2, [some (zR 0 0), some (zI 0), none, none, none], [], M, true) Q) : zT 28 (0, [some (zR 0 0), none, none, none, none], [], M, true) Q := by
  refine zT.it 2 (t := (2, [some (zR 0 0), some (zI 0), none, none, none], [], M, true)) rfl ?_
  exact h
theorem g28_2a0 {u2 : Option zV} {u3 : Option zV} {u4 : Option zV} {M : zM} {cl : Bool} {Q : zQ} (h : zF 27 [zI ((M.1 17 0 0) - (M.1 15 0 0))] M (fun v M1 => ∃ r1 : Int, v = some (zI r1) ∧ ∀ cl1 : Bool, (zr (M1.1 17 0 0) ∧ zr 0) ∧ (((M1.1 17 0 0) < 0 → Q (.inl (some (zI 0))) M1 cl1 0) ∧ (¬ ((M1.1 17 0 0) < 0) → (zr (M1.1 17 0 0) ∧ zr 999) ∧ ((999 < (M1.1 17 0 0) → Q (.inl (some (zI 0))) M1 cl1 0) ∧ (¬ (999 < (M1.1 17 0 0)) → (zr r1 ∧ zr 500) ∧ ((r1 ≤ 500 → zT 28 (2, [some (zR 0 0), some (zI 1), some (zI 0), some (zI 999), some (zI r1)], [], M1, cl1) Q) ∧ (¬ (r1 ≤ 500) → Q (.inl (some (zI 0))) M1 cl1 0)))))))) : zT 28 (2, [some (zR 0 0), some (zI 0), u2, u3, u4], [], M, cl) Q := by
  refine zT.it 2 (t := (4, [some (zR 0 0), some (zI 0), u2, u3, u4], [zI 3, zI 0], M, cl)) rfl ?_
  refine zT.br (g := zr 0 ∧ zr 3) (p := 3 ≤ 0) (t := (87, [some (zR 0 0), some (zI 0), u2, u3, u4], [], M, cl)) (u := (7, [some (zR 0 0), some (zI 0), u2, u3, u4], [], M, cl)) rfl (by decide) (fun c => absurd c (by decide)) (fun c => ?_)
  refine zT.it 2 (t := (9, [some (zR 0 0), some (zI 0), u2, u3, u4], [zI 2, zI 0], M, cl)) rfl ?_
  refine zT.br (g := zr 0 ∧ zr 2) (p := ¬ 0 = 2) (t := (17, [some (zR 0 0), some (zI 0), u2, u3, u4], [], M, cl)) (u := (12, [some (zR 0 0), some (zI 0), u2, u3, u4], [], M, cl)) rfl (by decide) (fun c => ?_) (fun c => absurd (by decide) c)
  refine zT.it 4 (t := (21, [some (zR 0 0), some (zI 0), some (zI 0), u3, u4], [zI 2, zI 0], M, cl)) rfl ?_
  refine zT.br (g := zr 0 ∧ zr 2) (p := ¬ 0 = 2) (t := (29, [some (zR 0 0), some (zI 0), some (zI 0), u3, u4], [], M, cl)) (u := (24, [some (zR 0 0), some (zI 0), some (zI 0), u3, u4], [], M, cl)) rfl (by decide) (fun c => ?_) (fun c => absurd (by decide) c)
  refine zT.it 5 (t := (38, [some (zR 0 0), some (zI 0), some (zI 0), some (zI 999), u4], [zI 0, zR 17 0], M, cl)) rfl ?_
  refine zT.chk (t := (39, [some (zR 0 0), some (zI 0), some (zI 0), some (zI 999), u4], [zI (M.1 17 0 0)], M, cl)) rfl (by first | decide | (dsimp only; decide)) ?_
  refine zT.it 3 (t := (44, [some (zR 0 0), some (zI 0), some (zI 0), some (zI 999), u4], [zI 0, zR 15 0, zI (M.1 17 0 0)], M, cl)) rfl ?_
  refine zT.chk (t := (45, [some (zR 0 0), some (zI 0), some (zI 0), some (zI 999), u4], [zI (M.1 15 0 0), zI (M.1 17 0 0)], M, cl)) rfl (by first | decide | (dsimp only; decide)) ?_
  refine zT.it 1 (t := (46, [some (zR 0 0), some (zI 0), some (zI 0), some (zI 999), u4], [zI ((M.1 17 0 0) - (M.1 15 0 0))], M, cl)) rfl ?_
  refine zT.call (m := 27) (as := [zI ((M.1 17 0 0) - (M.1 15 0 0))]) (M := M) (L := [some (zR 0 0), some (zI 0), some (zI 0), some (zI 999), u4]) (st := []) (pn := 49) (cl := cl) rfl ?_
  refine zF.mono h (fun v M1 h cl1 => ?_)
  obtain ⟨r1, e1, h⟩ := h; subst e1; replace h := h cl1
  show zT 28 (49, [some (zR 0 0), some (zI 0), some (zI 0), some (zI 999), u4], [zI r1], M1, cl1) _
  refine zT.it 4 (t := (56, [some (zR 0 0), some (zI 0), some (zI 0), some (zI 999), some (zI r1)], [zI 0, zR 17 0], M1, cl1)) rfl ?_
  refine zT.chk (t := (57, [some (zR 0 0), some (zI 0), some (zI 0), some (zI 999), some (zI r1)], [zI (M1.1 17 0 0)], M1, cl1)) rfl (by first | decide | (dsimp only; decide)) ?_
  refine zT.it 1 (t := (58, [some (zR 0 0), some (zI 0), some (zI 0), some (zI 999), some (zI r1)], [zI 0, zI (M1.1 17 0 0)], M1, cl1)) rfl ?_
  refine zT.br (g := zr (M1.1 17 0 0) ∧ zr 0) (p := (M1.1 17 0 0) < 0) (t := (79, [some (zR 0 0), some (zI 0), some (zI 0), some (zI 999), some (zI r1)], [], M1, cl1)) (u := (61, [some (zR 0 0), some (zI 0), some (zI 0), some (zI 999), some (zI r1)], [], M1, cl1)) rfl h.1 (fun c => ?_) (fun c => ?_)
  · replace h := h.2.1 c
    refine zT.it 1 (t := (80, [some (zR 0 0), some (zI 0), some (zI 0), some (zI 999), some (zI r1)], [zI 0], M1, cl1)) rfl ?_
    exact zT.ret (v := some (zI 0)) rfl (by first | exact trivial | decide) h
  · replace h := h.2.2 c
    refine zT.it 3 (t := (66, [some (zR 0 0), some (zI 0), some (zI 0), some (zI 999), some (zI r1)], [zI 0, zR 17 0], M1, cl1)) rfl ?_
    refine zT.chk (t := (67, [some (zR 0 0), some (zI 0), some (zI 0), some (zI 999), some (zI r1)], [zI (M1.1 17 0 0)], M1, cl1)) rfl (by first | decide | (dsimp only; decide)) ?_
    refine zT.it 1 (t := (68, [some (zR 0 0), some (zI 0), some (zI 0), some (zI 999), some (zI r1)], [zI 999, zI (M1.1 17 0 0)], M1, cl1)) rfl ?_
    refine zT.br (g := zr (M1.1 17 0 0) ∧ zr 999) (p := 999 < (M1.1 17 0 0)) (t := (79, [some (zR 0 0), some (zI 0), some (zI 0), some (zI 999), some (zI r1)], [], M1, cl1)) (u := (71, [some (zR 0 0), some (zI 0), some (zI 0), some (zI 999), some (zI r1)], [], M1, cl1)) rfl h.1 (fun c => ?_) (fun c => ?_)
    · replace h := h.2.1 c
      refine zT.it 1 (t := (80, [some (zR 0 0), some (zI 0), some (zI 0), some (zI 999), some (zI r1)], [zI 0], M1, cl1)) rfl ?_
      exact zT.ret (v := some (zI 0)) rfl (by first | exact trivial | decide) h
    · replace h := h.2.2 c
      refine zT.it 2 (t := (76, [some (zR 0 0), some (zI 0), some (zI 0), some (zI 999), some (zI r1)], [zI 500, zI r1], M1, cl1)) rfl ?_
      refine zT.br (g := zr r1 ∧ zr 500) (p := r1 ≤ 500) (t := (81, [some (zR 0 0), some (zI 0), some (zI 0), some (zI 999), some (zI r1)], [], M1, cl1)) (u := (79, [some (zR 0 0), some (zI 0), some (zI 0), some (zI 999), some (zI r1)], [], M1, cl1)) rfl h.1 (fun c => ?_) (fun c => ?_)
      · replace h := h.2.1 c
        refine zT.it 2 (t := (2, [some (zR 0 0), some (zI 1), some (zI 0), some (zI 999), some (zI r1)], [], M1, cl1)) rfl ?_
        exact h
      · replace h := h.2.2 c
        refine zT.it 1 (t := (80, [some (zR 0 0), some (zI 0), some (zI 0), some (zI 999), some (zI r1)], [zI 0], M1, cl1)) rfl ?_
        exact zT.ret (v := some (zI 0)) rfl (by first | exact trivial | decide) h
theorem g28_2a1 {u2 : Option zV} {u3 : Option zV} {u4 : Option zV} {M : zM} {cl : Bool} {Q : zQ} (h : zF 27 [zI ((M.1 17 0 1) - (M.1 15 0 1))] M (fun v M2 => ∃ r2 : Int, v = some (zI r2) ∧ ∀ cl2 : Bool, (zr (M2.1 17 0 1) ∧ zr 0) ∧ (((M2.1 17 0 1) < 0 → Q (.inl (some (zI 0))) M2 cl2 0) ∧ (¬ ((M2.1 17 0 1) < 0) → (zr (M2.1 17 0 1) ∧ zr 999) ∧ ((999 < (M2.1 17 0 1) → Q (.inl (some (zI 0))) M2 cl2 0) ∧ (¬ (999 < (M2.1 17 0 1)) → (zr r2 ∧ zr 500) ∧ ((r2 ≤ 500 → zT 28 (2, [some (zR 0 0), some (zI 2), some (zI 0), some (zI 999), some (zI r2)], [], M2, cl2) Q) ∧ (¬ (r2 ≤ 500) → Q (.inl (some (zI 0))) M2 cl2 0)))))))) : zT 28 (2, [some (zR 0 0), some (zI 1), u2, u3, u4], [], M, cl) Q := by
  refine zT.it 2 (t := (4, [some (zR 0 0), some (zI 1), u2, u3, u4], [zI 3, zI 1], M, cl)) rfl ?_
  refine zT.br (g := zr 1 ∧ zr 3) (p := 3 ≤ 1) (t := (87, [some (zR 0 0), some (zI 1), u2, u3, u4], [], M, cl)) (u := (7, [some (zR 0 0), some (zI 1), u2, u3, u4], [], M, cl)) rfl (by decide) (fun c => absurd c (by decide)) (fun c => ?_)
  refine zT.it 2 (t := (9, [some (zR 0 0), some (zI 1), u2, u3, u4], [zI 2, zI 1], M, cl)) rfl ?_
  refine zT.br (g := zr 1 ∧ zr 2) (p := ¬ 1 = 2) (t := (17, [some (zR 0 0), some (zI 1), u2, u3, u4], [], M, cl)) (u := (12, [some (zR 0 0), some (zI 1), u2, u3, u4], [], M, cl)) rfl (by decide) (fun c => ?_) (fun c => absurd (by decide) c)
  refine zT.it 4 (t := (21, [some (zR 0 0), some (zI 1), some (zI 0), u3, u4], [zI 2, zI 1], M, cl)) rfl ?_
  refine zT.br (g := zr 1 ∧ zr 2) (p := ¬ 1 = 2) (t := (29, [some (zR 0 0), some (zI 1), some (zI 0), u3, u4], [], M, cl)) (u := (24, [some (zR 0 0), some (zI 1), some (zI 0), u3, u4], [], M, cl)) rfl (by decide) (fun c => ?_) (fun c => absurd (by decide) c)
  refine zT.it 5 (t := (38, [some (zR 0 0), some (zI 1), some (zI 0), some (zI 999), u4], [zI 1, zR 17 0], M, cl)) rfl ?_
  refine zT.chk (t := (39, [some (zR 0 0), some (zI 1), some (zI 0), some (zI 999), u4], [zI (M.1 17 0 1)], M, cl)) rfl (by first | decide | (dsimp only; decide)) ?_
  refine zT.it 3 (t := (44, [some (zR 0 0), some (zI 1), some (zI 0), some (zI 999), u4], [zI 1, zR 15 0, zI (M.1 17 0 1)], M, cl)) rfl ?_
  refine zT.chk (t := (45, [some (zR 0 0), some (zI 1), some (zI 0), some (zI 999), u4], [zI (M.1 15 0 1), zI (M.1 17 0 1)], M, cl)) rfl (by first | decide | (dsimp only; decide)) ?_
  refine zT.it 1 (t := (46, [some (zR 0 0), some (zI 1), some (zI 0), some (zI 999), u4], [zI ((M.1 17 0 1) - (M.1 15 0 1))], M, cl)) rfl ?_
  refine zT.call (m := 27) (as := [zI ((M.1 17 0 1) - (M.1 15 0 1))]) (M := M) (L := [some (zR 0 0), some (zI 1), some (zI 0), some (zI 999), u4]) (st := []) (pn := 49) (cl := cl) rfl ?_
  refine zF.mono h (fun v M2 h cl2 => ?_)
  obtain ⟨r2, e2, h⟩ := h; subst e2; replace h := h cl2
  show zT 28 (49, [some (zR 0 0), some (zI 1), some (zI 0), some (zI 999), u4], [zI r2], M2, cl2) _
  refine zT.it 4 (t := (56, [some (zR 0 0), some (zI 1), some (zI 0), some (zI 999), some (zI r2)], [zI 1, zR 17 0], M2, cl2)) rfl ?_
  refine zT.chk (t := (57, [some (zR 0 0), some (zI 1), some (zI 0), some (zI 999), some (zI r2)], [zI (M2.1 17 0 1)], M2, cl2)) rfl (by first | decide | (dsimp only; decide)) ?_
  refine zT.it 1 (t := (58, [some (zR 0 0), some (zI 1), some (zI 0), some (zI 999), some (zI r2)], [zI 0, zI (M2.1 17 0 1)], M2, cl2)) rfl ?_
  refine zT.br (g := zr (M2.1 17 0 1) ∧ zr 0) (p := (M2.1 17 0 1) < 0) (t := (79, [some (zR 0 0), some (zI 1), some (zI 0), some (zI 999), some (zI r2)], [], M2, cl2)) (u := (61, [some (zR 0 0), some (zI 1), some (zI 0), some (zI 999), some (zI r2)], [], M2, cl2)) rfl h.1 (fun c => ?_) (fun c => ?_)
  · replace h := h.2.1 c
    refine zT.it 1 (t := (80, [some (zR 0 0), some (zI 1), some (zI 0), some (zI 999), some (zI r2)], [zI 0], M2, cl2)) rfl ?_
    exact zT.ret (v := some (zI 0)) rfl (by first | exact trivial | decide) h
  · replace h := h.2.2 c
    refine zT.it 3 (t := (66, [some (zR 0 0), some (zI 1), some (zI 0), some (zI 999), some (zI r2)], [zI 1, zR 17 0], M2, cl2)) rfl ?_
    refine zT.chk (t := (67, [some (zR 0 0), some (zI 1), some (zI 0), some (zI 999), some (zI r2)], [zI (M2.1 17 0 1)], M2, cl2)) rfl (by first | decide | (dsimp only; decide)) ?_
    refine zT.it 1 (t := (68, [some (zR 0 0), some (zI 1), some (zI 0), some (zI 999), some (zI r2)], [zI 999, zI (M2.1 17 0 1)], M2, cl2)) rfl ?_
    refine zT.br (g := zr (M2.1 17 0 1) ∧ zr 999) (p := 999 < (M2.1 17 0 1)) (t := (79, [some (zR 0 0), some (zI 1), some (zI 0), some (zI 999), some (zI r2)], [], M2, cl2)) (u := (71, [some (zR 0 0), some (zI 1), some (zI 0), some (zI 999), some (zI r2)], [], M2, cl2)) rfl h.1 (fun c => ?_) (fun c => ?_)
    · replace h := h.2.1 c
      refine zT.it 1 (t := (80, [some (zR 0 0), some (zI 1), some (zI 0), some (zI 999), some (zI r2)], [zI 0], M2, cl2)) rfl ?_
      exact zT.ret (v := some (zI 0)) rfl (by first | exact trivial | decide) h
    · replace h := h.2.2 c
      refine zT.it 2 (t := (76, [some (zR 0 0), some (zI 1), some (zI 0), some (zI 999), some (zI r2)], [zI 500, zI r2], M2, cl2)) rfl ?_
      refine zT.br (g := zr r2 ∧ zr 500) (p := r2 ≤ 500) (t := (81, [some (zR 0 0), some (zI 1), some (zI 0), some (zI 999), some (zI r2)], [], M2, cl2)) (u := (79, [some (zR 0 0), some (zI 1), some (zI 0), some (zI 999), some (zI r2)], [], M2, cl2)) rfl h.1 (fun c => ?_) (fun c => ?_)
      · replace h := h.2.1 c
        refine zT.it 2 (t := (2, [some (zR 0 0), some (zI 2), some (zI 0), some (zI 999), some (zI r2)], [], M2, cl2)) rfl ?_
        exact h
      · replace h := h.2.2 c
        refine zT.it 1 (t := (80, [some (zR 0 0), some (zI 1), some (zI 0), some (zI 999), some (zI r2)], [zI 0], M2, cl2)) rfl ?_
        exact zT.ret (v := some (zI 0)) rfl (by first | exact trivial | decide) h
theorem g28_2a2 {u2 : Option zV} {u3 : Option zV} {u4 : Option zV} {M : zM} {cl : Bool} {Q : zQ} (h : zF 27 [zI ((M.1 17 0 2) - (M.1 15 0 2))] M (fun v M3 => ∃ r3 : Int, v = some (zI r3) ∧ ∀ cl3 : Bool, (zr (M3.1 17 0 2) ∧ zr (-99999)) ∧ (((M3.1 17 0 2) < (-99999) → Q (.inl (some (zI 0))) M3 cl3 0) ∧ (¬ ((M3.1 17 0 2) < (-99999)) → (zr (M3.1 17 0 2) ∧ zr 99999) ∧ ((99999 < (M3.1 17 0 2) → Q (.inl (some (zI 0))) M3 cl3 0) ∧ (¬ (99999 < (M3.1 17 0 2)) → (zr r3 ∧ zr 500) ∧ ((r3 ≤ 500 → zT 28 (2, [some (zR 0 0), some (zI 3), some (zI (-99999)), some (zI 99999), some (zI r3)], [], M3, cl3) Q) ∧ (¬ (r3 ≤ 500) → Q (.inl (some (zI 0))) M3 cl3 0)))))))) : zT 28 (2, [some (zR 0 0), some (zI 2), u2, u3, u4], [], M, cl) Q := by
  refine zT.it 2 (t := (4, [some (zR 0 0), some (zI 2), u2, u3, u4], [zI 3, zI 2], M, cl)) rfl ?_
  refine zT.br (g := zr 2 ∧ zr 3) (p := 3 ≤ 2) (t := (87, [some (zR 0 0), some (zI 2), u2, u3, u4], [], M, cl)) (u := (7, [some (zR 0 0), some (zI 2), u2, u3, u4], [], M, cl)) rfl (by decide) (fun c => absurd c (by decide)) (fun c => ?_)
  refine zT.it 2 (t := (9, [some (zR 0 0), some (zI 2), u2, u3, u4], [zI 2, zI 2], M, cl)) rfl ?_
  refine zT.br (g := zr 2 ∧ zr 2) (p := ¬ 2 = 2) (t := (17, [some (zR 0 0), some (zI 2), u2, u3, u4], [], M, cl)) (u := (12, [some (zR 0 0), some (zI 2), u2, u3, u4], [], M, cl)) rfl (by decide) (fun c => absurd c (by decide)) (fun c => ?_)
  refine zT.it 5 (t := (21, [some (zR 0 0), some (zI 2), some (zI (-99999)), u3, u4], [zI 2, zI 2], M, cl)) rfl ?_
  refine zT.br (g := zr 2 ∧ zr 2) (p := ¬ 2 = 2) (t := (29, [some (zR 0 0), some (zI 2), some (zI (-99999)), u3, u4], [], M, cl)) (u := (24, [some (zR 0 0), some (zI 2), some (zI (-99999)), u3, u4], [], M, cl)) rfl (by decide) (fun c => absurd c (by decide)) (fun c => ?_)
  refine zT.it 6 (t := (38, [some (zR 0 0), some (zI 2), some (zI (-99999)), some (zI 99999), u4], [zI 2, zR 17 0], M, cl)) rfl ?_
  refine zT.chk (t := (39, [some (zR 0 0), some (zI 2), some (zI (-99999)), some (zI 99999), u4], [zI (M.1 17 0 2)], M, cl)) rfl (by first | decide | (dsimp only; decide)) ?_
  refine zT.it 3 (t := (44, [some (zR 0 0), some (zI 2), some (zI (-99999)), some (zI 99999), u4], [zI 2, zR 15 0, zI (M.1 17 0 2)], M, cl)) rfl ?_
  refine zT.chk (t := (45, [some (zR 0 0), some (zI 2), some (zI (-99999)), some (zI 99999), u4], [zI (M.1 15 0 2), zI (M.1 17 0 2)], M, cl)) rfl (by first | decide | (dsimp only; decide)) ?_
  refine zT.it 1 (t := (46, [some (zR 0 0), some (zI 2), some (zI (-99999)), some (zI 99999), u4], [zI ((M.1 17 0 2) - (M.1 15 0 2))], M, cl)) rfl ?_
  refine zT.call (m := 27) (as := [zI ((M.1 17 0 2) - (M.1 15 0 2))]) (M := M) (L := [some (zR 0 0), some (zI 2), some (zI (-99999)), some (zI 99999), u4]) (st := []) (pn := 49) (cl := cl) rfl ?_
  refine zF.mono h (fun v M3 h cl3 => ?_)
  obtain ⟨r3, e3, h⟩ := h; subst e3; replace h := h cl3
  show zT 28 (49, [some (zR 0 0), some (zI 2), some (zI (-99999)), some (zI 99999), u4], [zI r3], M3, cl3) _
  refine zT.it 4 (t := (56, [some (zR 0 0), some (zI 2), some (zI (-99999)), some (zI 99999), some (zI r3)], [zI 2, zR 17 0], M3, cl3)) rfl ?_
  refine zT.chk (t := (57, [some (zR 0 0), some (zI 2), some (zI (-99999)), some (zI 99999), some (zI r3)], [zI (M3.1 17 0 2)], M3, cl3)) rfl (by first | decide | (dsimp only; decide)) ?_
  refine zT.it 1 (t := (58, [some (zR 0 0), some (zI 2), some (zI (-99999)), some (zI 99999), some (zI r3)], [zI (-99999), zI (M3.1 17 0 2)], M3, cl3)) rfl ?_
  refine zT.br (g := zr (M3.1 17 0 2) ∧ zr (-99999)) (p := (M3.1 17 0 2) < (-99999)) (t := (79, [some (zR 0 0), some (zI 2), some (zI (-99999)), some (zI 99999), some (zI r3)], [], M3, cl3)) (u := (61, [some (zR 0 0), some (zI 2), some (zI (-99999)), some (zI 99999), some (zI r3)], [], M3, cl3)) rfl h.1 (fun c => ?_) (fun c => ?_)
  · replace h := h.2.1 c
    refine zT.it 1 (t := (80, [some (zR 0 0), some (zI 2), some (zI (-99999)), some (zI 99999), some (zI r3)], [zI 0], M3, cl3)) rfl ?_
    exact zT.ret (v := some (zI 0)) rfl (by first | exact trivial | decide) h
  · replace h := h.2.2 c
    refine zT.it 3 (t := (66, [some (zR 0 0), some (zI 2), some (zI (-99999)), some (zI 99999), some (zI r3)], [zI 2, zR 17 0], M3, cl3)) rfl ?_
    refine zT.chk (t := (67, [some (zR 0 0), some (zI 2), some (zI (-99999)), some (zI 99999), some (zI r3)], [zI (M3.1 17 0 2)], M3, cl3)) rfl (by first | decide | (dsimp only; decide)) ?_
    refine zT.it 1 (t := (68, [some (zR 0 0), some (zI 2), some (zI (-99999)), some (zI 99999), some (zI r3)], [zI 99999, zI (M3.1 17 0 2)], M3, cl3)) rfl ?_
    refine zT.br (g := zr (M3.1 17 0 2) ∧ zr 99999) (p := 99999 < (M3.1 17 0 2)) (t := (79, [some (zR 0 0), some (zI 2), some (zI (-99999)), some (zI 99999), some (zI r3)], [], M3, cl3)) (u := (71, [some (zR 0 0), some (zI 2), some (zI (-99999)), some (zI 99999), some (zI r3)], [], M3, cl3)) rfl h.1 (fun c => ?_) (fun c => ?_)
    · replace h := h.2.1 c
      refine zT.it 1 (t := (80, [some (zR 0 0), some (zI 2), some (zI (-99999)), some (zI 99999), some (zI r3)], [zI 0], M3, cl3)) rfl ?_
      exact zT.ret (v := some (zI 0)) rfl (by first | exact trivial | decide) h
    · replace h := h.2.2 c
      refine zT.it 2 (t := (76, [some (zR 0 0), some (zI 2), some (zI (-99999)), some (zI 99999), some (zI r3)], [zI 500, zI r3], M3, cl3)) rfl ?_
      refine zT.br (g := zr r3 ∧ zr 500) (p := r3 ≤ 500) (t := (81, [some (zR 0 0), some (zI 2), some (zI (-99999)), some (zI 99999), some (zI r3)], [], M3, cl3)) (u := (79, [some (zR 0 0), some (zI 2), some (zI (-99999)), some (zI 99999), some (zI r3)], [], M3, cl3)) rfl h.1 (fun c => ?_) (fun c => ?_)
      · replace h := h.2.1 c
        refine zT.it 2 (t := (2, [some (zR 0 0), some (zI 3), some (zI (-99999)), some (zI 99999), some (zI r3)], [], M3, cl3)) rfl ?_
        exact h
      · replace h := h.2.2 c
        refine zT.it 1 (t := (80, [some (zR 0 0), some (zI 2), some (zI (-99999)), some (zI 99999), some (zI r3)], [zI 0], M3, cl3)) rfl ?_
        exact zT.ret (v := some (zI 0)) rfl (by first | exact trivial | decide) h
theorem g28_2a3 {u2 : Option zV} {u3 : Option zV} {u4 : Option zV} {M : zM} {cl : Bool} {Q : zQ} (h : Q (.inl (some (zI 1))) M cl 0) : zT 28 (2, [some (zR 0 0), some (zI 3), u2, u3, u4], [], M, cl) Q := by
  refine zT.it 2 (t := (4, [some (zR 0 0), some (zI 3), u2, u3, u4], [zI 3, zI 3], M, cl)) rfl ?_
  refine zT.br (g := zr 3 ∧ zr 3) (p := 3 ≤ 3) (t := (87, [some (zR 0 0), some (zI 3), u2, u3, u4], [], M, cl)) (u := (7, [some (zR 0 0), some (zI 3), u2, u3, u4], [], M, cl)) rfl (by decide) (fun c => ?_) (fun c => absurd (by decide) c)
  refine zT.it 1 (t := (88, [some (zR 0 0), some (zI 3), u2, u3, u4], [zI 1], M, cl)) rfl ?_
  exact zT.ret (v := some (zI 1)) rfl (by first | exact trivial | decide) h
theorem g29_0 {M : zM} {Q : zQ} (h : (zr (M.1 8 0 3) ∧ zr 8) ∧ (((M.1 8 0 3) < 8 → Q (.inl (some (zI 0))) M true 0) ∧ (¬ ((M.1 8 0 3) < 8) → Q (.inl (some (zI 1))) M true 0))) : zT 29 (0, [some (zR 8 0)], [], M, true) Q := by
  refine zT.it 3 (t := (6, [some (zR 8 0)], [zI 8, zI (M.1 8 0 3)], M, true)) rfl ?_
  refine zT.br (g := zr (M.1 8 0 3) ∧ zr 8) (p := (M.1 8 0 3) < 8) (t := (13, [some (zR 8 0)], [], M, true)) (u := (9, [some (zR 8 0)], [], M, true)) rfl h.1 (fun c => ?_) (fun c => ?_)
  · replace h := h.2.1 c
    refine zT.it 1 (t := (14, [some (zR 8 0)], [zI 0], M, true)) rfl ?_
    exact zT.ret (v := some (zI 0)) rfl (by first | exact trivial | decide) h
  · replace h := h.2.2 c
    refine zT.it 2 (t := (14, [some (zR 8 0)], [zI 1], M, true)) rfl ?_
    exact zT.ret (v := some (zI 1)) rfl (by first | exact trivial | decide) h
theorem g30_0 {a1 : Int} {a2 : Int} {M : zM} {Q : zQ} (h : (z_dv a1 a2) ∧ ((z_p a1 ∧ z_p a2) ∧ ((zr (Int.ofNat (Int.toNat a1 ^^^ Int.toNat a2))) ∧ ((0 ≤ (Int.ofNat (Int.toNat a1 ^^^ Int.toNat a2)) → Q (.inl (some (zI (a1 % a2)))) M true 0) ∧ (¬ (0 ≤ (Int.ofNat (Int.toNat a1 ^^^ Int.toNat a2))) → (zr (a1 % a2)) ∧ (((a1 % a2) = 0 → Q (.inl (some (zI (a1 % a2)))) M true 0) ∧ (¬ ((a1 % a2) = 0) → Q (.inl (some (zI ((a1 % a2) + a2)))) M true 0))))))) : zT 30 (0, [some (zI a1), some (zI a2), none], [], M, true) Q := by
  refine zT.it 2 (t := (2, [some (zI a1), some (zI a2), none], [zI a2, zI a1], M, true)) rfl ?_
  refine zT.chk (p := z_dv a1 a2) (t := (3, [some (zI a1), some (zI a2), none], [zI (a1 % a2)], M, true)) rfl h.1 ?_
  replace h := h.2
  refine zT.it 3 (t := (6, [some (zI a1), some (zI a2), some (zI (a1 % a2))], [zI a2, zI a1], M, true)) rfl ?_
  refine zT.chk (p := z_p a1 ∧ z_p a2) (t := (7, [some (zI a1), some (zI a2), some (zI (a1 % a2))], [zI (Int.ofNat (Int.toNat a1 ^^^ Int.toNat a2))], M, true)) rfl h.1 ?_
  replace h := h.2
  refine zT.br (g := zr (Int.ofNat (Int.toNat a1 ^^^ Int.toNat a2))) (p := 0 ≤ (Int.ofNat (Int.toNat a1 ^^^ Int.toNat a2))) (t := (18, [some (zI a1), some (zI a2), some (zI (a1 % a2))], [], M, true)) (u := (10, [some (zI a1), some (zI a2), some (zI (a1 % a2))], [], M, true)) rfl h.1 (fun c => ?_) (fun c => ?_)
  · replace h := h.2.1 c
    refine zT.it 1 (t := (19, [some (zI a1), some (zI a2), some (zI (a1 % a2))], [zI (a1 % a2)], M, true)) rfl ?_
    exact zT.ret (v := some (zI (a1 % a2))) rfl (by first | exact trivial | decide) h
  · replace h := h.2.2 c
    refine zT.it 1 (t := (11, [some (zI a1), some (zI a2), some (zI (a1 % a2))], [zI (a1 % a2)], M, true)) rfl ?_
    refine zT.br (g := zr (a1 % a2)) (p := (a1 % a2) = 0) (t := (18, [some (zI a1), some (zI a2), some (zI (a1 % a2))], [], M, true)) (u := (14, [some (zI a1), some (zI a2), some (zI (a1 % a2))], [], M, true)) rfl h.1 (fun c => ?_) (fun c => ?_)
    · replace h := h.2.1 c
      refine zT.it 1 (t := (19, [some (zI a1), some (zI a2), some (zI (a1 % a2))], [zI (a1 % a2)], M, true)) rfl ?_
      exact zT.ret (v := some (zI (a1 % a2))) rfl (by first | exact trivial | decide) h
    · replace h := h.2.2 c
      refine zT.it 3 (t := (17, [some (zI a1), some (zI a2), some (zI (a1 % a2))], [zI ((a1 % a2) + a2)], M, true)) rfl ?_
      exact zT.ret (v := some (zI ((a1 % a2) + a2))) rfl (by first | exact trivial | decide) h
theorem g31_0 {a1 : Int} {M : zM} {Q : zQ} (h : zF 30 [zI ((M.1 8 0 2) + a1), zI 8] M (fun v M1 => ∃ r1 : Int, v = some (zI r1) ∧ ∀ cl1 : Bool, (z_wi r1 8) ∧ (Q (.inl (some (zR 10 r1.toNat))) M1 cl1 0))) : zT 31 (0, [some (zR 8 0), some (zI a1)], [], M, true) Q := by
  refine zT.it 7 (t := (12, [some (zR 8 0), some (zI a1)], [zI 8, zI ((M.1 8 0 2) + a1), zR 9 0], M, true)) rfl ?_
  refine zT.call (m := 30) (as := [zI ((M.1 8 0 2) + a1), zI 8]) (M := M) (L := [some (zR 8 0), some (zI a1)]) (st := [zR 9 0]) (pn := 15) (cl := true) rfl ?_
  refine zF.mono h (fun v M1 h cl1 => ?_)
  obtain ⟨r1, e1, h⟩ := h; subst e1; replace h := h cl1
  show zT 31 (15, [some (zR 8 0), some (zI a1)], [zI r1, zR 9 0], M1, cl1) _
  refine zT.chk (p := z_wi r1 8) (t := (16, [some (zR 8 0), some (zI a1)], [zR 10 r1.toNat], M1, cl1)) rfl h.1 ?_
  replace h := h.2
  exact zT.ret (v := some (zR 10 r1.toNat)) rfl trivial h
theorem g32_0 {a1 : Int} {a2 : Int} {M : zM} {Q : zQ} (h : (zr a1 ∧ zr a2) ∧ ((a1 < a2 → Q (.inl (some (zI a2))) M true 0) ∧ (¬ (a1 < a2) → Q (.inl (some (zI a1))) M true 0))) : zT 32 (0, [some (zI a1), some (zI a2)], [], M, true) Q := by
  refine zT.it 2 (t := (2, [some (zI a1), some (zI a2)], [zI a2, zI a1], M, true)) rfl ?_
  refine zT.br (g := zr a1 ∧ zr a2) (p := a1 < a2) (t := (9, [some (zI a1), some (zI a2)], [], M, true)) (u := (5, [some (zI a1), some (zI a2)], [], M, true)) rfl h.1 (fun c => ?_) (fun c => ?_)
  · replace h := h.2.1 c
    refine zT.it 1 (t := (10, [some (zI a1), some (zI a2)], [zI a2], M, true)) rfl ?_
    exact zT.ret (v := some (zI a2)) rfl (by first | exact trivial | decide) h
  · replace h := h.2.2 c
    refine zT.it 2 (t := (10, [some (zI a1), some (zI a2)], [zI a1], M, true)) rfl ?_
    exact zT.ret (v := some (zI a1)) rfl (by first | exact trivial | decide) h
theorem g33_0_15_17 {j0 : Nat} {a3 : Int} {M : zM} {Q : zQ} (h : zF 27 [zI ((z_w (z_w M 10 j0 1 0) 11 j0 0 ((M.1 17 0 0) - (M.1 15 0 0))).1 11 j0 0)] (z_w (z_w M 10 j0 1 0) 11 j0 0 ((M.1 17 0 0) - (M.1 15 0 0))) (fun v M1 => ∃ r1 : Int, v = some (zI r1) ∧ ∀ cl1 : Bool, zF 32 [zI ((z_w M 10 j0 1 0).1 10 j0 1), zI r1] M1 (fun v M2 => ∃ r2 : Int, v = some (zI r2) ∧ ∀ cl2 : Bool, zF 27 [zI ((z_w (z_w M2 10 j0 1 r2) 11 j0 1 ((M2.1 17 0 1) - (M2.1 15 0 1))).1 11 j0 1)] (z_w (z_w M2 10 j0 1 r2) 11 j0 1 ((M2.1 17 0 1) - (M2.1 15 0 1))) (fun v M3 => ∃ r3 : Int, v = some (zI r3) ∧ ∀ cl3 : Bool, zF 32 [zI ((z_w M2 10 j0 1 r2).1 10 j0 1), zI r3] M3 (fun v M4 => ∃ r4 : Int, v = some (zI r4) ∧ ∀ cl4 : Bool, zF 27 [zI ((z_w (z_w M4 10 j0 1 r4) 11 j0 2 ((M4.1 17 0 2) - (M4.1 15 0 2))).1 11 j0 2)] (z_w (z_w M4 10 j0 1 r4) 11 j0 2 ((M4.1 17 0 2) - (M4.1 15 0 2))) (fun v M5 => ∃ r5 : Int, v = some (zI r5) ∧ ∀ cl5 : Bool, zF 32 [zI ((z_w M4 10 j0 1 r4).1 10 j0 1), zI r5] M5 (fun v M6 => ∃ r6 : Int, v = some (zI r6) ∧ ∀ cl6 : Bool, Q (.inl none) (z_w (z_w M6 10 j0 1 r6) 10 j0 2 (a3 * a3)) false 0))))))) : zT 33 (0, [some (zR 10 j0), some (zR 15 0), some (zR 17 0), some (zI a3), none], [], M, true) Q := by
  refine zT.it 7 (t := (11, [some (zR 10 j0), some (zR 15 0), some (zR 17 0), some (zI a3), some (zI 0)], [zI 3, zI 0], (z_w M 10 j0 1 0), false)) rfl ?_
  refine zT.br (g := zr 0 ∧ zr 3) (p := 3 ≤ 0) (t := (57, [some (zR 10 j0), some (zR 15 0), some (zR 17 0), some (zI a3), some (zI 0)], [], (z_w M 10 j0 1 0), false)) (u := (14, [some (zR 10 j0), some (zR 15 0), some (zR 17 0), some (zI a3), some (zI 0)], [], (z_w M 10 j0 1 0), false)) rfl (by decide) (fun c => absurd c (by decide)) (fun c => ?_)
  refine zT.it 5 (t := (23, [some (zR 10 j0), some (zR 15 0), some (zR 17 0), some (zI a3), some (zI 0)], [zI 0, zR 17 0, zI 0, zR 11 j0], (z_w M 10 j0 1 0), false)) rfl ?_
  refine zT.chk (t := (24, [some (zR 10 j0), some (zR 15 0), some (zR 17 0), some (zI a3), some (zI 0)], [zI (M.1 17 0 0), zI 0, zR 11 j0], (z_w M 10 j0 1 0), false)) rfl (by first | decide | (dsimp only; decide)) ?_
  refine zT.it 2 (t := (27, [some (zR 10 j0), some (zR 15 0), some (zR 17 0), some (zI a3), some (zI 0)], [zI 0, zR 15 0, zI (M.1 17 0 0), zI 0, zR 11 j0], (z_w M 10 j0 1 0), false)) rfl ?_
  refine zT.chk (t := (28, [some (zR 10 j0), some (zR 15 0), some (zR 17 0), some (zI a3), some (zI 0)], [zI (M.1 15 0 0), zI (M.1 17 0 0), zI 0, zR 11 j0], (z_w M 10 j0 1 0), false)) rfl (by first | decide | (dsimp only; decide)) ?_
  refine zT.it 1 (t := (29, [some (zR 10 j0), some (zR 15 0), some (zR 17 0), some (zI a3), some (zI 0)], [zI ((M.1 17 0 0) - (M.1 15 0 0)), zI 0, zR 11 j0], (z_w M 10 j0 1 0), false)) rfl ?_
  refine zT.chk (t := (30, [some (zR 10 j0), some (zR 15 0), some (zR 17 0), some (zI a3), some (zI 0)], [], (z_w (z_w M 10 j0 1 0) 11 j0 0 ((M.1 17 0 0) - (M.1 15 0 0))), false)) rfl (by first | decide | (dsimp only; decide)) ?_
  refine zT.it 6 (t := (41, [some (zR 10 j0), some (zR 15 0), some (zR 17 0), some (zI a3), some (zI 0)], [zI 0, zR 11 j0, zI ((z_w M 10 j0 1 0).1 10 j0 1), zR 10 j0], (z_w (z_w M 10 j0 1 0) 11 j0 0 ((M.1 17 0 0) - (M.1 15 0 0))), false)) rfl ?_
  refine zT.chk (t := (42, [some (zR 10 j0), some (zR 15 0), some (zR 17 0), some (zI a3), some (zI 0)], [zI ((z_w (z_w M 10 j0 1 0) 11 j0 0 ((M.1 17 0 0) - (M.1 15 0 0))).1 11 j0 0), zI ((z_w M 10 j0 1 0).1 10 j0 1), zR 10 j0], (z_w (z_w M 10 j0 1 0) 11 j0 0 ((M.1 17 0 0) - (M.1 15 0 0))), false)) rfl (by first | decide | (dsimp only; decide)) ?_
  refine zT.call (m := 27) (as := [zI ((z_w (z_w M 10 j0 1 0) 11 j0 0 ((M.1 17 0 0) - (M.1 15 0 0))).1 11 j0 0)]) (M := (z_w (z_w M 10 j0 1 0) 11 j0 0 ((M.1 17 0 0) - (M.1 15 0 0)))) (L := [some (zR 10 j0), some (zR 15 0), some (zR 17 0), some (zI a3), some (zI 0)]) (st := [zI ((z_w M 10 j0 1 0).1 10 j0 1), zR 10 j0]) (pn := 45) (cl := false) rfl ?_
  refine zF.mono h (fun v M1 h cl1 => ?_)
  obtain ⟨r1, e1, h⟩ := h; subst e1; replace h := h cl1
  show zT 33 (45, [some (zR 10 j0), some (zR 15 0), some (zR 17 0), some (zI a3), some (zI 0)], [zI r1, zI ((z_w M 10 j0 1 0).1 10 j0 1), zR 10 j0], M1, cl1) _
  refine zT.call (m := 32) (as := [zI ((z_w M 10 j0 1 0).1 10 j0 1), zI r1]) (M := M1) (L := [some (zR 10 j0), some (zR 15 0), some (zR 17 0), some (zI a3), some (zI 0)]) (st := [zR 10 j0]) (pn := 48) (cl := cl1) rfl ?_
  refine zF.mono h (fun v M2 h cl2 => ?_)
  obtain ⟨r2, e2, h⟩ := h; subst e2; replace h := h cl2
  show zT 33 (48, [some (zR 10 j0), some (zR 15 0), some (zR 17 0), some (zI a3), some (zI 0)], [zI r2, zR 10 j0], M2, cl2) _
  refine zT.it 5 (t := (11, [some (zR 10 j0), some (zR 15 0), some (zR 17 0), some (zI a3), some (zI 1)], [zI 3, zI 1], (z_w M2 10 j0 1 r2), false)) rfl ?_
  refine zT.br (g := zr 1 ∧ zr 3) (p := 3 ≤ 1) (t := (57, [some (zR 10 j0), some (zR 15 0), some (zR 17 0), some (zI a3), some (zI 1)], [], (z_w M2 10 j0 1 r2), false)) (u := (14, [some (zR 10 j0), some (zR 15 0), some (zR 17 0), some (zI a3), some (zI 1)], [], (z_w M2 10 j0 1 r2), false)) rfl (by decide) (fun c => absurd c (by decide)) (fun c => ?_)
  refine zT.it 5 (t := (23, [some (zR 10 j0), some (zR 15 0), some (zR 17 0), some (zI a3), some (zI 1)], [zI 1, zR 17 0, zI 1, zR 11 j0], (z_w M2 10 j0 1 r2), false)) rfl ?_
  refine zT.chk (t := (24, [some (zR 10 j0), some (zR 15 0), some (zR 17 0), some (zI a3), some (zI 1)], [zI (M2.1 17 0 1), zI 1, zR 11 j0], (z_w M2 10 j0 1 r2), false)) rfl (by first | decide | (dsimp only; decide)) ?_
  refine zT.it 2 (t := (27, [some (zR 10 j0), some (zR 15 0), some (zR 17 0), some (zI a3), some (zI 1)], [zI 1, zR 15 0, zI (M2.1 17 0 1), zI 1, zR 11 j0], (z_w M2 10 j0 1 r2), false)) rfl ?_
  refine zT.chk (t := (28, [some (zR 10 j0), some (zR 15 0), some (zR 17 0), some (zI a3), some (zI 1)], [zI (M2.1 15 0 1), zI (M2.1 17 0 1), zI 1, zR 11 j0], (z_w M2 10 j0 1 r2), false)) rfl (by first | decide | (dsimp only; decide)) ?_
  refine zT.it 1 (t := (29, [some (zR 10 j0), some (zR 15 0), some (zR 17 0), some (zI a3), some (zI 1)], [zI ((M2.1 17 0 1) - (M2.1 15 0 1)), zI 1, zR 11 j0], (z_w M2 10 j0 1 r2), false)) rfl ?_
  refine zT.chk (t := (30, [some (zR 10 j0), some (zR 15 0), some (zR 17 0), some (zI a3), some (zI 1)], [], (z_w (z_w M2 10 j0 1 r2) 11 j0 1 ((M2.1 17 0 1) - (M2.1 15 0 1))), false)) rfl (by first | decide | (dsimp only; decide)) ?_
  refine zT.it 6 (t := (41, [some (zR 10 j0), some (zR 15 0), some (zR 17 0), some (zI a3), some (zI 1)], [zI 1, zR 11 j0, zI ((z_w M2 10 j0 1 r2).1 10 j0 1), zR 10 j0], (z_w (z_w M2 10 j0 1 r2) 11 j0 1 ((M2.1 17 0 1) - (M2.1 15 0 1))), false)) rfl ?_
  refine zT.chk (t := (42, [some (zR 10 j0), some (zR 15 0), some (zR 17 0), some (zI a3), some (zI 1)], [zI ((z_w (z_w M2 10 j0 1 r2) 11 j0 1 ((M2.1 17 0 1) - (M2.1 15 0 1))).1 11 j0 1), zI ((z_w M2 10 j0 1 r2).1 10 j0 1), zR 10 j0], (z_w (z_w M2 10 j0 1 r2) 11 j0 1 ((M2.1 17 0 1) - (M2.1 15 0 1))), false)) rfl (by first | decide | (dsimp only; decide)) ?_
  refine zT.call (m := 27) (as := [zI ((z_w (z_w M2 10 j0 1 r2) 11 j0 1 ((M2.1 17 0 1) - (M2.1 15 0 1))).1 11 j0 1)]) (M := (z_w (z_w M2 10 j0 1 r2) 11 j0 1 ((M2.1 17 0 1) - (M2.1 15 0 1)))) (L := [some (zR 10 j0), some (zR 15 0), some (zR 17 0), some (zI a3), some (zI 1)]) (st := [zI ((z_w M2 10 j0 1 r2).1 10 j0 1), zR 10 j0]) (pn := 45) (cl := false) rfl ?_
  refine zF.mono h (fun v M3 h cl3 => ?_)
  obtain ⟨r3, e3, h⟩ := h; subst e3; replace h := h cl3
  show zT 33 (45, [some (zR 10 j0), some (zR 15 0), some (zR 17 0), some (zI a3), some (zI 1)], [zI r3, zI ((z_w M2 10 j0 1 r2).1 10 j0 1), zR 10 j0], M3, cl3) _
  refine zT.call (m := 32) (as := [zI ((z_w M2 10 j0 1 r2).1 10 j0 1), zI r3]) (M := M3) (L := [some (zR 10 j0), some (zR 15 0), some (zR 17 0), some (zI a3), some (zI 1)]) (st := [zR 10 j0]) (pn := 48) (cl := cl3) rfl ?_
  refine zF.mono h (fun v M4 h cl4 => ?_)
  obtain ⟨r4, e4, h⟩ := h; subst e4; replace h := h cl4
  show zT 33 (48, [some (zR 10 j0), some (zR 15 0), some (zR 17 0), some (zI a3), some (zI 1)], [zI r4, zR 10 j0], M4, cl4) _
  refine zT.it 5 (t := (11, [some (zR 10 j0), some (zR 15 0), some (zR 17 0), some (zI a3), some (zI 2)], [zI 3, zI 2], (z_w M4 10 j0 1 r4), false)) rfl ?_
  refine zT.br (g := zr 2 ∧ zr 3) (p := 3 ≤ 2) (t := (57, [some (zR 10 j0), some (zR 15 0), some (zR 17 0), some (zI a3), some (zI 2)], [], (z_w M4 10 j0 1 r4), false)) (u := (14, [some (zR 10 j0), some (zR 15 0), some (zR 17 0), some (zI a3), some (zI 2)], [], (z_w M4 10 j0 1 r4), false)) rfl (by decide) (fun c => absurd c (by decide)) (fun c => ?_)
  refine zT.it 5 (t := (23, [some (zR 10 j0), some (zR 15 0), some (zR 17 0), some (zI a3), some (zI 2)], [zI 2, zR 17 0, zI 2, zR 11 j0], (z_w M4 10 j0 1 r4), false)) rfl ?_
  refine zT.chk (t := (24, [some (zR 10 j0), some (zR 15 0), some (zR 17 0), some (zI a3), some (zI 2)], [zI (M4.1 17 0 2), zI 2, zR 11 j0], (z_w M4 10 j0 1 r4), false)) rfl (by first | decide | (dsimp only; decide)) ?_
  refine zT.it 2 (t := (27, [some (zR 10 j0), some (zR 15 0), some (zR 17 0), some (zI a3), some (zI 2)], [zI 2, zR 15 0, zI (M4.1 17 0 2), zI 2, zR 11 j0], (z_w M4 10 j0 1 r4), false)) rfl ?_
  refine zT.chk (t := (28, [some (zR 10 j0), some (zR 15 0), some (zR 17 0), some (zI a3), some (zI 2)], [zI (M4.1 15 0 2), zI (M4.1 17 0 2), zI 2, zR 11 j0], (z_w M4 10 j0 1 r4), false)) rfl (by first | decide | (dsimp only; decide)) ?_
  refine zT.it 1 (t := (29, [some (zR 10 j0), some (zR 15 0), some (zR 17 0), some (zI a3), some (zI 2)], [zI ((M4.1 17 0 2) - (M4.1 15 0 2)), zI 2, zR 11 j0], (z_w M4 10 j0 1 r4), false)) rfl ?_
  refine zT.chk (t := (30, [some (zR 10 j0), some (zR 15 0), some (zR 17 0), some (zI a3), some (zI 2)], [], (z_w (z_w M4 10 j0 1 r4) 11 j0 2 ((M4.1 17 0 2) - (M4.1 15 0 2))), false)) rfl (by first | decide | (dsimp only; decide)) ?_
  refine zT.it 6 (t := (41, [some (zR 10 j0), some (zR 15 0), some (zR 17 0), some (zI a3), some (zI 2)], [zI 2, zR 11 j0, zI ((z_w M4 10 j0 1 r4).1 10 j0 1), zR 10 j0], (z_w (z_w M4 10 j0 1 r4) 11 j0 2 ((M4.1 17 0 2) - (M4.1 15 0 2))), false)) rfl ?_
  refine zT.chk (t := (42, [some (zR 10 j0), some (zR 15 0), some (zR 17 0), some (zI a3), some (zI 2)], [zI ((z_w (z_w M4 10 j0 1 r4) 11 j0 2 ((M4.1 17 0 2) - (M4.1 15 0 2))).1 11 j0 2), zI ((z_w M4 10 j0 1 r4).1 10 j0 1), zR 10 j0], (z_w (z_w M4 10 j0 1 r4) 11 j0 2 ((M4.1 17 0 2) - (M4.1 15 0 2))), false)) rfl (by first | decide | (dsimp only; decide)) ?_
  refine zT.call (m := 27) (as := [zI ((z_w (z_w M4 10 j0 1 r4) 11 j0 2 ((M4.1 17 0 2) - (M4.1 15 0 2))).1 11 j0 2)]) (M := (z_w (z_w M4 10 j0 1 r4) 11 j0 2 ((M4.1 17 0 2) - (M4.1 15 0 2)))) (L := [some (zR 10 j0), some (zR 15 0), some (zR 17 0), some (zI a3), some (zI 2)]) (st := [zI ((z_w M4 10 j0 1 r4).1 10 j0 1), zR 10 j0]) (pn := 45) (cl := false) rfl ?_
  refine zF.mono h (fun v M5 h cl5 => ?_)
  obtain ⟨r5, e5, h⟩ := h; subst e5; replace h := h cl5
  show zT 33 (45, [some (zR 10 j0), some (zR 15 0), some (zR 17 0), some (zI a3), some (zI 2)], [zI r5, zI ((z_w M4 10 j0 1 r4).1 10 j0 1), zR 10 j0], M5, cl5) _
  refine zT.call (m := 32) (as := [zI ((z_w M4 10 j0 1 r4).1 10 j0 1), zI r5]) (M := M5) (L := [some (zR 10 j0), some (zR 15 0), some (zR 17 0), some (zI a3), some (zI 2)]) (st := [zR 10 j0]) (pn := 48) (cl := cl5) rfl ?_
  refine zF.mono h (fun v M6 h cl6 => ?_)
  obtain ⟨r6, e6, h⟩ := h; subst e6; replace h := h cl6
  show zT 33 (48, [some (zR 10 j0), some (zR 15 0), some (zR 17 0), some (zI a3), some (zI 2)], [zI r6, zR 10 j0], M6, cl6) _
  refine zT.it 5 (t := (11, [some (zR 10 j0), some (zR 15 0), some (zR 17 0), some (zI a3), some (zI 3)], [zI 3, zI 3], (z_w M6 10 j0 1 r6), false)) rfl ?_
  refine zT.br (g := zr 3 ∧ zr 3) (p := 3 ≤ 3) (t := (57, [some (zR 10 j0), some (zR 15 0), some (zR 17 0), some (zI a3), some (zI 3)], [], (z_w M6 10 j0 1 r6), false)) (u := (14, [some (zR 10 j0), some (zR 15 0), some (zR 17 0), some (zI a3), some (zI 3)], [], (z_w M6 10 j0 1 r6), false)) rfl (by decide) (fun c => ?_) (fun c => absurd (by decide) c)
  refine zT.it 5 (t := (64, [some (zR 10 j0), some (zR 15 0), some (zR 17 0), some (zI a3), some (zI 3)], [], (z_w (z_w M6 10 j0 1 r6) 10 j0 2 (a3 * a3)), false)) rfl ?_
  exact zT.ret (v := none) rfl trivial h
theorem g34_0 {j0 : Nat} {j1 : Nat} {M : zM} {Q : zQ} (h : (zr (M.1 11 j0 0)) ∧ ((zr (M.1 11 j1 0)) ∧ ((zr (M.1 11 j0 1)) ∧ ((zr (M.1 11 j1 1)) ∧ ((zr (M.1 11 j0 2)) ∧ ((zr (M.1 11 j1 2)) ∧ (Q (.inl (some (zJ (((0 + ((M.1 11 j0 0) * (M.1 11 j1 0))) + ((M.1 11 j0 1) * (M.1 11 j1 1))) + ((M.1 11 j0 2) * (M.1 11 j1 2)))))) M true 0))))))) : zT 34 (0, [some (zR 10 j0), some (zR 10 j1), none, none, none], [], M, true) Q := by
  refine zT.it 6 (t := (8, [some (zR 10 j0), some (zR 10 j1), some (zJ 0), none, some (zI 0)], [zI 3, zI 0], M, true)) rfl ?_
  refine zT.br (g := zr 0 ∧ zr 3) (p := 3 ≤ 0) (t := (37, [some (zR 10 j0), some (zR 10 j1), some (zJ 0), none, some (zI 0)], [], M, true)) (u := (11, [some (zR 10 j0), some (zR 10 j1), some (zJ 0), none, some (zI 0)], [], M, true)) rfl (by decide) (fun c => absurd c (by decide)) (fun c => ?_)
  refine zT.it 4 (t := (18, [some (zR 10 j0), some (zR 10 j1), some (zJ 0), none, some (zI 0)], [zI 0, zR 11 j0, zJ 0], M, true)) rfl ?_
  refine zT.chk (t := (19, [some (zR 10 j0), some (zR 10 j1), some (zJ 0), none, some (zI 0)], [zI (M.1 11 j0 0), zJ 0], M, true)) rfl (by first | decide | (dsimp only; decide)) ?_
  refine zT.chk (p := zr (M.1 11 j0 0)) (t := (20, [some (zR 10 j0), some (zR 10 j1), some (zJ 0), none, some (zI 0)], [zJ (M.1 11 j0 0), zJ 0], M, true)) rfl h.1 ?_
  replace h := h.2
  refine zT.it 3 (t := (26, [some (zR 10 j0), some (zR 10 j1), some (zJ 0), none, some (zI 0)], [zI 0, zR 11 j1, zJ (M.1 11 j0 0), zJ 0], M, true)) rfl ?_
  refine zT.chk (t := (27, [some (zR 10 j0), some (zR 10 j1), some (zJ 0), none, some (zI 0)], [zI (M.1 11 j1 0), zJ (M.1 11 j0 0), zJ 0], M, true)) rfl (by first | decide | (dsimp only; decide)) ?_
  refine zT.chk (p := zr (M.1 11 j1 0)) (t := (28, [some (zR 10 j0), some (zR 10 j1), some (zJ 0), none, some (zI 0)], [zJ (M.1 11 j1 0), zJ (M.1 11 j0 0), zJ 0], M, true)) rfl h.1 ?_
  replace h := h.2
  refine zT.it 7 (t := (8, [some (zR 10 j0), some (zR 10 j1), some (zJ (0 + ((M.1 11 j0 0) * (M.1 11 j1 0)))), none, some (zI 1)], [zI 3, zI 1], M, true)) rfl ?_
  refine zT.br (g := zr 1 ∧ zr 3) (p := 3 ≤ 1) (t := (37, [some (zR 10 j0), some (zR 10 j1), some (zJ (0 + ((M.1 11 j0 0) * (M.1 11 j1 0)))), none, some (zI 1)], [], M, true)) (u := (11, [some (zR 10 j0), some (zR 10 j1), some (zJ (0 + ((M.1 11 j0 0) * (M.1 11 j1 0)))), none, some (zI 1)], [], M, true)) rfl (by decide) (fun c => absurd c (by decide)) (fun c => ?_)
  refine zT.it 4 (t := (18, [some (zR 10 j0), some (zR 10 j1), some (zJ (0 + ((M.1 11 j0 0) * (M.1 11 j1 0)))), none, some (zI 1)], [zI 1, zR 11 j0, zJ (0 + ((M.1 11 j0 0) * (M.1 11 j1 0)))], M, true)) rfl ?_
  refine zT.chk (t := (19, [some (zR 10 j0), some (zR 10 j1), some (zJ (0 + ((M.1 11 j0 0) * (M.1 11 j1 0)))), none, some (zI 1)], [zI (M.1 11 j0 1), zJ (0 + ((M.1 11 j0 0) * (M.1 11 j1 0)))], M, true)) rfl (by first | decide | (dsimp only; decide)) ?_
  refine zT.chk (p := zr (M.1 11 j0 1)) (t := (20, [some (zR 10 j0), some (zR 10 j1), some (zJ (0 + ((M.1 11 j0 0) * (M.1 11 j1 0)))), none, some (zI 1)], [zJ (M.1 11 j0 1), zJ (0 + ((M.1 11 j0 0) * (M.1 11 j1 0)))], M, true)) rfl h.1 ?_
  replace h := h.2
  refine zT.it 3 (t := (26, [some (zR 10 j0), some (zR 10 j1), some (zJ (0 + ((M.1 11 j0 0) * (M.1 11 j1 0)))), none, some (zI 1)], [zI 1, zR 11 j1, zJ (M.1 11 j0 1), zJ (0 + ((M.1 11 j0 0) * (M.1 11 j1 0)))], M, true)) rfl ?_
  refine zT.chk (t := (27, [some (zR 10 j0), some (zR 10 j1), some (zJ (0 + ((M.1 11 j0 0) * (M.1 11 j1 0)))), none, some (zI 1)], [zI (M.1 11 j1 1), zJ (M.1 11 j0 1), zJ (0 + ((M.1 11 j0 0) * (M.1 11 j1 0)))], M, true)) rfl (by first | decide | (dsimp only; decide)) ?_
  refine zT.chk (p := zr (M.1 11 j1 1)) (t := (28, [some (zR 10 j0), some (zR 10 j1), some (zJ (0 + ((M.1 11 j0 0) * (M.1 11 j1 0)))), none, some (zI 1)], [zJ (M.1 11 j1 1), zJ (M.1 11 j0 1), zJ (0 + ((M.1 11 j0 0) * (M.1 11 j1 0)))], M, true)) rfl h.1 ?_
  replace h := h.2
  refine zT.it 7 (t := (8, [some (zR 10 j0), some (zR 10 j1), some (zJ ((0 + ((M.1 11 j0 0) * (M.1 11 j1 0))) + ((M.1 11 j0 1) * (M.1 11 j1 1)))), none, some (zI 2)], [zI 3, zI 2], M, true)) rfl ?_
  refine zT.br (g := zr 2 ∧ zr 3) (p := 3 ≤ 2) (t := (37, [some (zR 10 j0), some (zR 10 j1), some (zJ ((0 + ((M.1 11 j0 0) * (M.1 11 j1 0))) + ((M.1 11 j0 1) * (M.1 11 j1 1)))), none, some (zI 2)], [], M, true)) (u := (11, [some (zR 10 j0), some (zR 10 j1), some (zJ ((0 + ((M.1 11 j0 0) * (M.1 11 j1 0))) + ((M.1 11 j0 1) * (M.1 11 j1 1)))), none, some (zI 2)], [], M, true)) rfl (by decide) (fun c => absurd c (by decide)) (fun c => ?_)
  refine zT.it 4 (t := (18, [some (zR 10 j0), some (zR 10 j1), some (zJ ((0 + ((M.1 11 j0 0) * (M.1 11 j1 0))) + ((M.1 11 j0 1) * (M.1 11 j1 1)))), none, some (zI 2)], [zI 2, zR 11 j0, zJ ((0 + ((M.1 11 j0 0) * (M.1 11 j1 0))) + ((M.1 11 j0 1) * (M.1 11 j1 1)))], M, true)) rfl ?_
  refine zT.chk (t := (19, [some (zR 10 j0), some (zR 10 j1), some (zJ ((0 + ((M.1 11 j0 0) * (M.1 11 j1 0))) + ((M.1 11 j0 1) * (M.1 11 j1 1)))), none, some (zI 2)], [zI (M.1 11 j0 2), zJ ((0 + ((M.1 11 j0 0) * (M.1 11 j1 0))) + ((M.1 11 j0 1) * (M.1 11 j1 1)))], M, true)) rfl (by first | decide | (dsimp only; decide)) ?_
  refine zT.chk (p := zr (M.1 11 j0 2)) (t := (20, [some (zR 10 j0), some (zR 10 j1), some (zJ ((0 + ((M.1 11 j0 0) * (M.1 11 j1 0))) + ((M.1 11 j0 1) * (M.1 11 j1 1)))), none, some (zI 2)], [zJ (M.1 11 j0 2), zJ ((0 + ((M.1 11 j0 0) * (M.1 11 j1 0))) + ((M.1 11 j0 1) * (M.1 11 j1 1)))], M, true)) rfl h.1 ?_
  replace h := h.2
  refine zT.it 3 (t := (26, [some (zR 10 j0), some (zR 10 j1), some (zJ ((0 + ((M.1 11 j0 0) * (M.1 11 j1 0))) + ((M.1 11 j0 1) * (M.1 11 j1 1)))), none, some (zI 2)], [zI 2, zR 11 j1, zJ (M.1 11 j0 2), zJ ((0 + ((M.1 11 j0 0) * (M.1 11 j1 0))) + ((M.1 11 j0 1) * (M.1 11 j1 1)))], M, true)) rfl ?_
  refine zT.chk (t := (27, [some (zR 10 j0), some (zR 10 j1), some (zJ ((0 + ((M.1 11 j0 0) * (M.1 11 j1 0))) + ((M.1 11 j0 1) * (M.1 11 j1 1)))), none, some (zI 2)], [zI (M.1 11 j1 2), zJ (M.1 11 j0 2), zJ ((0 + ((M.1 11 j0 0) * (M.1 11 j1 0))) + ((M.1 11 j0 1) * (M.1 11 j1 1)))], M, true)) rfl (by first | decide | (dsimp only; decide)) ?_
  refine zT.chk (p := zr (M.1 11 j1 2)) (t := (28, [some (zR 10 j0), some (zR 10 j1), some (zJ ((0 + ((M.1 11 j0 0) * (M.1 11 j1 0))) + ((M.1 11 j0 1) * (M.1 11 j1 1)))), none, some (zI 2)], [zJ (M.1 11 j1 2), zJ (M.1 11 j0 2), zJ ((0 + ((M.1 11 j0 0) * (M.1 11 j1 0))) + ((M.1 11 j0 1) * (M.1 11 j1 1)))], M, true)) rfl h.1 ?_
  replace h := h.2
  refine zT.it 7 (t := (8, [some (zR 10 j0), some (zR 10 j1), some (zJ (((0 + ((M.1 11 j0 0) * (M.1 11 j1 0))) + ((M.1 11 j0 1) * (M.1 11 j1 1))) + ((M.1 11 j0 2) * (M.1 11 j1 2)))), none, some (zI 3)], [zI 3, zI 3], M, true)) rfl ?_
  refine zT.br (g := zr 3 ∧ zr 3) (p := 3 ≤ 3) (t := (37, [some (zR 10 j0), some (zR 10 j1), some (zJ (((0 + ((M.1 11 j0 0) * (M.1 11 j1 0))) + ((M.1 11 j0 1) * (M.1 11 j1 1))) + ((M.1 11 j0 2) * (M.1 11 j1 2)))), none, some (zI 3)], [], M, true)) (u := (11, [some (zR 10 j0), some (zR 10 j1), some (zJ (((0 + ((M.1 11 j0 0) * (M.1 11 j1 0))) + ((M.1 11 j0 1) * (M.1 11 j1 1))) + ((M.1 11 j0 2) * (M.1 11 j1 2)))), none, some (zI 3)], [], M, true)) rfl (by decide) (fun c => ?_) (fun c => absurd (by decide) c)
  refine zT.it 1 (t := (38, [some (zR 10 j0), some (zR 10 j1), some (zJ (((0 + ((M.1 11 j0 0) * (M.1 11 j1 0))) + ((M.1 11 j0 1) * (M.1 11 j1 1))) + ((M.1 11 j0 2) * (M.1 11 j1 2)))), none, some (zI 3)], [zJ (((0 + ((M.1 11 j0 0) * (M.1 11 j1 0))) + ((M.1 11 j0 1) * (M.1 11 j1 1))) + ((M.1 11 j0 2) * (M.1 11 j1 2)))], M, true)) rfl ?_
  exact zT.ret (v := some (zJ (((0 + ((M.1 11 j0 0) * (M.1 11 j1 0))) + ((M.1 11 j0 1) * (M.1 11 j1 1))) + ((M.1 11 j0 2) * (M.1 11 j1 2))))) rfl trivial h
theorem g35_0 {a1 : Int} {a2 : Int} {M : zM} {Q : zQ} (h : (zr a1 ∧ zr a2) ∧ ((a2 < a1 → Q (.inl (some (zI a2))) M true 0) ∧ (¬ (a2 < a1) → Q (.inl (some (zI a1))) M true 0))) : zT 35 (0, [some (zI a1), some (zI a2)], [], M, true) Q := by
  refine zT.it 2 (t := (2, [some (zI a1), some (zI a2)], [zI a2, zI a1], M, true)) rfl ?_
  refine zT.br (g := zr a1 ∧ zr a2) (p := a2 < a1) (t := (9, [some (zI a1), some (zI a2)], [], M, true)) (u := (5, [some (zI a1), some (zI a2)], [], M, true)) rfl h.1 (fun c => ?_) (fun c => ?_)
  · replace h := h.2.1 c
    refine zT.it 1 (t := (10, [some (zI a1), some (zI a2)], [zI a2], M, true)) rfl ?_
    exact zT.ret (v := some (zI a2)) rfl (by first | exact trivial | decide) h
  · replace h := h.2.2 c
    refine zT.it 2 (t := (10, [some (zI a1), some (zI a2)], [zI a1], M, true)) rfl ?_
    exact zT.ret (v := some (zI a1)) rfl (by first | exact trivial | decide) h
theorem g36_0 {j0 : Nat} {j1 : Nat} {M : zM} {Q : zQ} (h : zF 34 [zR 10 j0, zR 10 j1] M (fun v M1 => ∃ r1 : Int, v = some (zJ r1) ∧ ∀ cl1 : Bool, zF 34 [zR 10 j0, zR 10 j0] M1 (fun v M2 => ∃ r2 : Int, v = some (zJ r2) ∧ ∀ cl2 : Bool, zF 34 [zR 10 j1, zR 10 j1] M2 (fun v M3 => ∃ r3 : Int, v = some (zJ r3) ∧ ∀ cl3 : Bool, (zrl r1 ∧ zrl 0) ∧ ((r1 ≤ 0 → Q (.inl (some (zI 0))) M3 cl3 0) ∧ (¬ (r1 ≤ 0) → (zrl (r2 * r3) ∧ zrl 0) ∧ ((0 < (r2 * r3) → zF 35 [zI (M3.1 10 j0 2), zI (M3.1 10 j1 2)] M3 (fun v M4 => ∃ r4 : Int, v = some (zI r4) ∧ ∀ cl4 : Bool, (zr r4) ∧ ((z_dvl ((r4 * r1) * r1) (r2 * r3)) ∧ (Q (.inl (some (zI (((r4 * r1) * r1) / (r2 * r3))))) M4 cl4 0)))) ∧ (¬ (0 < (r2 * r3)) → Q (.inl (some (zI 0))) M3 cl3 0)))))))) : zT 36 (0, [some (zR 10 j0), some (zR 10 j1), none, none, none, none], [], M, true) Q := by
  refine zT.it 2 (t := (2, [some (zR 10 j0), some (zR 10 j1), none, none, none, none], [zR 10 j1, zR 10 j0], M, true)) rfl ?_
  refine zT.call (m := 34) (as := [zR 10 j0, zR 10 j1]) (M := M) (L := [some (zR 10 j0), some (zR 10 j1), none, none, none, none]) (st := []) (pn := 5) (cl := true) rfl ?_
  refine zF.mono h (fun v M1 h cl1 => ?_)
  obtain ⟨r1, e1, h⟩ := h; subst e1; replace h := h cl1
  show zT 36 (5, [some (zR 10 j0), some (zR 10 j1), none, none, none, none], [zJ r1], M1, cl1) _
  refine zT.it 3 (t := (8, [some (zR 10 j0), some (zR 10 j1), some (zJ r1), none, none, none], [zR 10 j0, zR 10 j0], M1, cl1)) rfl ?_
  refine zT.call (m := 34) (as := [zR 10 j0, zR 10 j0]) (M := M1) (L := [some (zR 10 j0), some (zR 10 j1), some (zJ r1), none, none, none]) (st := []) (pn := 11) (cl := cl1) rfl ?_
  refine zF.mono h (fun v M2 h cl2 => ?_)
  obtain ⟨r2, e2, h⟩ := h; subst e2; replace h := h cl2
  show zT 36 (11, [some (zR 10 j0), some (zR 10 j1), some (zJ r1), none, none, none], [zJ r2], M2, cl2) _
  refine zT.it 2 (t := (13, [some (zR 10 j0), some (zR 10 j1), some (zJ r1), none, none, none], [zR 10 j1, zR 10 j1, zJ r2], M2, cl2)) rfl ?_
  refine zT.call (m := 34) (as := [zR 10 j1, zR 10 j1]) (M := M2) (L := [some (zR 10 j0), some (zR 10 j1), some (zJ r1), none, none, none]) (st := [zJ r2]) (pn := 16) (cl := cl2) rfl ?_
  refine zF.mono h (fun v M3 h cl3 => ?_)
  obtain ⟨r3, e3, h⟩ := h; subst e3; replace h := h cl3
  show zT 36 (16, [some (zR 10 j0), some (zR 10 j1), some (zJ r1), none, none, none], [zJ r3, zJ r2], M3, cl3) _
  refine zT.it 4 (t := (21, [some (zR 10 j0), some (zR 10 j1), some (zJ r1), none, some (zJ (r2 * r3)), none], [zJ 0, zJ r1], M3, cl3)) rfl ?_
  refine zT.chk (p := zrl r1 ∧ zrl 0) (t := (22, [some (zR 10 j0), some (zR 10 j1), some (zJ r1), none, some (zJ (r2 * r3)), none], [zI (z_cmp r1 0)], M3, cl3)) rfl h.1 ?_
  replace h := h.2
  refine zT.br (t := (32, [some (zR 10 j0), some (zR 10 j1), some (zJ r1), none, some (zJ (r2 * r3)), none], [], M3, cl3)) (u := (25, [some (zR 10 j0), some (zR 10 j1), some (zJ r1), none, some (zJ (r2 * r3)), none], [], M3, cl3)) rfl (z_cmp_r _ _) (fun c => ?_) (fun c => ?_)
  · replace h := h.1 (z_cmp_le.1 c)
    refine zT.it 1 (t := (33, [some (zR 10 j0), some (zR 10 j1), some (zJ r1), none, some (zJ (r2 * r3)), none], [zI 0], M3, cl3)) rfl ?_
    exact zT.ret (v := some (zI 0)) rfl (by first | exact trivial | decide) h
  · replace h := h.2 (fun d => c (z_cmp_le.2 d))
    refine zT.it 2 (t := (28, [some (zR 10 j0), some (zR 10 j1), some (zJ r1), none, some (zJ (r2 * r3)), none], [zJ 0, zJ (r2 * r3)], M3, cl3)) rfl ?_
    refine zT.chk (p := zrl (r2 * r3) ∧ zrl 0) (t := (29, [some (zR 10 j0), some (zR 10 j1), some (zJ r1), none, some (zJ (r2 * r3)), none], [zI (z_cmp (r2 * r3) 0)], M3, cl3)) rfl h.1 ?_
    replace h := h.2
    refine zT.br (t := (34, [some (zR 10 j0), some (zR 10 j1), some (zJ r1), none, some (zJ (r2 * r3)), none], [], M3, cl3)) (u := (32, [some (zR 10 j0), some (zR 10 j1), some (zJ r1), none, some (zJ (r2 * r3)), none], [], M3, cl3)) rfl (z_cmp_r _ _) (fun c => ?_) (fun c => ?_)
    · replace h := h.1 (z_cmp_gt.1 c)
      refine zT.it 4 (t := (42, [some (zR 10 j0), some (zR 10 j1), some (zJ r1), none, some (zJ (r2 * r3)), none], [zI (M3.1 10 j1 2), zI (M3.1 10 j0 2)], M3, cl3)) rfl ?_
      refine zT.call (m := 35) (as := [zI (M3.1 10 j0 2), zI (M3.1 10 j1 2)]) (M := M3) (L := [some (zR 10 j0), some (zR 10 j1), some (zJ r1), none, some (zJ (r2 * r3)), none]) (st := []) (pn := 45) (cl := cl3) rfl ?_
      refine zF.mono h (fun v M4 h cl4 => ?_)
      obtain ⟨r4, e4, h⟩ := h; subst e4; replace h := h cl4
      show zT 36 (45, [some (zR 10 j0), some (zR 10 j1), some (zJ r1), none, some (zJ (r2 * r3)), none], [zI r4], M4, cl4) _
      refine zT.chk (p := zr r4) (t := (46, [some (zR 10 j0), some (zR 10 j1), some (zJ r1), none, some (zJ (r2 * r3)), none], [zJ r4], M4, cl4)) rfl h.1 ?_
      replace h := h.2
      refine zT.it 5 (t := (52, [some (zR 10 j0), some (zR 10 j1), some (zJ r1), none, some (zJ (r2 * r3)), none], [zJ (r2 * r3), zJ ((r4 * r1) * r1)], M4, cl4)) rfl ?_
      refine zT.chk (p := z_dvl ((r4 * r1) * r1) (r2 * r3)) (t := (53, [some (zR 10 j0), some (zR 10 j1), some (zJ r1), none, some (zJ (r2 * r3)), none], [zJ (((r4 * r1) * r1) / (r2 * r3))], M4, cl4)) rfl h.1 ?_
      replace h := h.2
      refine zT.it 1 (t := (54, [some (zR 10 j0), some (zR 10 j1), some (zJ r1), none, some (zJ (r2 * r3)), none], [zI (((r4 * r1) * r1) / (r2 * r3))], M4, cl4)) rfl ?_
      exact zT.ret (v := some (zI (((r4 * r1) * r1) / (r2 * r3)))) rfl (by first | exact trivial | decide) h
    · replace h := h.2 (fun d => c (z_cmp_gt.2 d))
      refine zT.it 1 (t := (33, [some (zR 10 j0), some (zR 10 j1), some (zJ r1), none, some (zJ (r2 * r3)), none], [zI 0], M3, cl3)) rfl ?_
      exact zT.ret (v := some (zI 0)) rfl (by first | exact trivial | decide) h
theorem g37_0 {j1 : Nat} {M : zM} {Q : zQ} (h : Q (.inl (some (zI ((2 * (M.1 8 0 1)) * (M.1 10 j1 1))))) M true 0) : zT 37 (0, [some (zR 8 0), some (zR 10 j1)], [], M, true) Q := by
  refine zT.it 7 (t := (11, [some (zR 8 0), some (zR 10 j1)], [zI ((2 * (M.1 8 0 1)) * (M.1 10 j1 1))], M, true)) rfl ?_
  exact zT.ret (v := some (zI ((2 * (M.1 8 0 1)) * (M.1 10 j1 1)))) rfl (by first | exact trivial | decide) h
theorem g38_0 {M : zM} {Q : zQ} (h : (zr (M.1 8 0 4)) ∧ (((M.1 8 0 4) = 0 → (zr (M.1 8 0 3) ∧ zr 0) ∧ ((0 < (M.1 8 0 3) → zF 31 [zR 8 0, zI 0] M (fun v M1 => ∃ r1 : Nat, v = some (zR 10 r1) ∧ ∀ cl1 : Bool, (zr (M1.1 8 0 4)) ∧ (((M1.1 8 0 4) = 0 → zT 38 (53, [some (zR 8 0), some (zI 0), some (zI 1), none, none, none], [], (z_w M1 10 r1 3 0), false) Q) ∧ (¬ ((M1.1 8 0 4) = 0) → zF 31 [zR 8 0, zI 0] M1 (fun v M2 => ∃ r2 : Nat, v = some (zR 10 r2) ∧ ∀ cl2 : Bool, zT 38 (53, [some (zR 8 0), some (zI 0), some (zI 1), none, none, none], [], (z_w M2 10 r1 3 (M2.1 10 r2 4)), false) Q))))) ∧ (¬ (0 < (M.1 8 0 3)) → Q (.inl none) M true 0))) ∧ (¬ ((M.1 8 0 4) = 0) → (zr (M.1 8 0 3) ∧ zr 1) ∧ ((1 < (M.1 8 0 3) → zF 31 [zR 8 0, zI 1] M (fun v M3 => ∃ r3 : Nat, v = some (zR 10 r3) ∧ ∀ cl3 : Bool, (zr (M3.1 8 0 4)) ∧ (((M3.1 8 0 4) = 0 → zT 38 (53, [some (zR 8 0), some (zI 1), some (zI 2), none, none, none], [], (z_w M3 10 r3 3 0), false) Q) ∧ (¬ ((M3.1 8 0 4) = 0) → zF 31 [zR 8 0, zI 0] M3 (fun v M4 => ∃ r4 : Nat, v = some (zR 10 r4) ∧ ∀ cl4 : Bool, zT 38 (53, [some (zR 8 0), some (zI 1), some (zI 2), none, none, none], [], (z_w M4 10 r3 3 (M4.1 10 r4 4)), false) Q))))) ∧ (¬ (1 < (M.1 8 0 3)) → Q (.inl none) M true 0))))) : zT 38 (0, [some (zR 8 0), none, none, none, none, none], [], M, true) Q := by
  refine zT.it 2 (t := (4, [some (zR 8 0), none, none, none, none, none], [zI (M.1 8 0 4)], M, true)) rfl ?_
  refine zT.br (g := zr (M.1 8 0 4)) (p := (M.1 8 0 4) = 0) (t := (11, [some (zR 8 0), none, none, none, none, none], [], M, true)) (u := (7, [some (zR 8 0), none, none, none, none, none], [], M, true)) rfl h.1 (fun c => ?_) (fun c => ?_)
  · replace h := h.2.1 c
    refine zT.it 5 (t := (18, [some (zR 8 0), some (zI 0), none, none, none, none], [zI 0, zI (M.1 8 0 3)], M, true)) rfl ?_
    refine zT.br (g := zr (M.1 8 0 3) ∧ zr 0) (p := 0 < (M.1 8 0 3)) (t := (22, [some (zR 8 0), some (zI 0), none, none, none, none], [], M, true)) (u := (21, [some (zR 8 0), some (zI 0), none, none, none, none], [], M, true)) rfl h.1 (fun c => ?_) (fun c => ?_)
    · replace h := h.2.1 c
      refine zT.it 2 (t := (24, [some (zR 8 0), some (zI 0), none, none, none, none], [zI 0, zR 8 0], M, true)) rfl ?_
      refine zT.call (m := 31) (as := [zR 8 0, zI 0]) (M := M) (L := [some (zR 8 0), some (zI 0), none, none, none, none]) (st := []) (pn := 27) (cl := true) rfl ?_
      refine zF.mono h (fun v M1 h cl1 => ?_)
      obtain ⟨r1, e1, h⟩ := h; subst e1; replace h := h cl1
      show zT 38 (27, [some (zR 8 0), some (zI 0), none, none, none, none], [zR 10 r1], M1, cl1) _
      refine zT.it 2 (t := (31, [some (zR 8 0), some (zI 0), none, none, none, none], [zI (M1.1 8 0 4), zR 10 r1], M1, cl1)) rfl ?_
      refine zT.br (g := zr (M1.1 8 0 4)) (p := (M1.1 8 0 4) = 0) (t := (45, [some (zR 8 0), some (zI 0), none, none, none, none], [zR 10 r1], M1, cl1)) (u := (34, [some (zR 8 0), some (zI 0), none, none, none, none], [zR 10 r1], M1, cl1)) rfl h.1 (fun c => ?_) (fun c => ?_)
      · replace h := h.2.1 c
        refine zT.it 6 (t := (53, [some (zR 8 0), some (zI 0), some (zI 1), none, none, none], [], (z_w M1 10 r1 3 0), false)) rfl ?_
        exact h
      · replace h := h.2.2 c
        refine zT.it 2 (t := (36, [some (zR 8 0), some (zI 0), none, none, none, none], [zI 0, zR 8 0, zR 10 r1], M1, cl1)) rfl ?_
        refine zT.call (m := 31) (as := [zR 8 0, zI 0]) (M := M1) (L := [some (zR 8 0), some (zI 0), none, none, none, none]) (st := [zR 10 r1]) (pn := 39) (cl := cl1) rfl ?_
        refine zF.mono h (fun v M2 h cl2 => ?_)
        obtain ⟨r2, e2, h⟩ := h; subst e2; replace h := h cl2
        show zT 38 (39, [some (zR 8 0), some (zI 0), none, none, none, none], [zR 10 r2, zR 10 r1], M2, cl2) _
        refine zT.it 7 (t := (53, [some (zR 8 0), some (zI 0), some (zI 1), none, none, none], [], (z_w M2 10 r1 3 (M2.1 10 r2 4)), false)) rfl ?_
        exact h
    · replace h := h.2.2 c
      exact zT.ret (v := none) rfl trivial h
  · replace h := h.2.2 c
    refine zT.it 6 (t := (18, [some (zR 8 0), some (zI 1), none, none, none, none], [zI 1, zI (M.1 8 0 3)], M, true)) rfl ?_
    refine zT.br (g := zr (M.1 8 0 3) ∧ zr 1) (p := 1 < (M.1 8 0 3)) (t := (22, [some (zR 8 0), some (zI 1), none, none, none, none], [], M, true)) (u := (21, [some (zR 8 0), some (zI 1), none, none, none, none], [], M, true)) rfl h.1 (fun c => ?_) (fun c => ?_)
    · replace h := h.2.1 c
      refine zT.it 2 (t := (24, [some (zR 8 0), some (zI 1), none, none, none, none], [zI 1, zR 8 0], M, true)) rfl ?_
      refine zT.call (m := 31) (as := [zR 8 0, zI 1]) (M := M) (L := [some (zR 8 0), some (zI 1), none, none, none, none]) (st := []) (pn := 27) (cl := true) rfl ?_
      refine zF.mono h (fun v M3 h cl3 => ?_)
      obtain ⟨r3, e3, h⟩ := h; subst e3; replace h := h cl3
      show zT 38 (27, [some (zR 8 0), some (zI 1), none, none, none, none], [zR 10 r3], M3, cl3) _
      refine zT.it 2 (t := (31, [some (zR 8 0), some (zI 1), none, none, none, none], [zI (M3.1 8 0 4), zR 10 r3], M3, cl3)) rfl ?_
      refine zT.br (g := zr (M3.1 8 0 4)) (p := (M3.1 8 0 4) = 0) (t := (45, [some (zR 8 0), some (zI 1), none, none, none, none], [zR 10 r3], M3, cl3)) (u := (34, [some (zR 8 0), some (zI 1), none, none, none, none], [zR 10 r3], M3, cl3)) rfl h.1 (fun c => ?_) (fun c => ?_)
      · replace h := h.2.1 c
        refine zT.it 6 (t := (53, [some (zR 8 0), some (zI 1), some (zI 2), none, none, none], [], (z_w M3 10 r3 3 0), false)) rfl ?_
        exact h
      · replace h := h.2.2 c
        refine zT.it 2 (t := (36, [some (zR 8 0), some (zI 1), none, none, none, none], [zI 0, zR 8 0, zR 10 r3], M3, cl3)) rfl ?_
        refine zT.call (m := 31) (as := [zR 8 0, zI 0]) (M := M3) (L := [some (zR 8 0), some (zI 1), none, none, none, none]) (st := [zR 10 r3]) (pn := 39) (cl := cl3) rfl ?_
        refine zF.mono h (fun v M4 h cl4 => ?_)
        obtain ⟨r4, e4, h⟩ := h; subst e4; replace h := h cl4
        show zT 38 (39, [some (zR 8 0), some (zI 1), none, none, none, none], [zR 10 r4, zR 10 r3], M4, cl4) _
        refine zT.it 7 (t := (53, [some (zR 8 0), some (zI 1), some (zI 2), none, none, none], [], (z_w M4 10 r3 3 (M4.1 10 r4 4)), false)) rfl ?_
        exact h
    · replace h := h.2.2 c
      exact zT.ret (v := none) rfl trivial h
