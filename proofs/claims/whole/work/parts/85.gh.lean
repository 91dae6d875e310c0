-- what each piece of the program asks (written by gen/g.py out of the program itself)
theorem g97_31 {u1 : Option zV} {u2 : Option zV} {u3 : Option zV} {M : zM} {cl : Bool} {Q : zQ} (h : (zr (M.1 18 0 19)) ∧ ((¬ (M.1 18 0 19) = 0 → (zr (M.1 27 0 0)) ∧ (((M.1 27 0 0) ≤ 0 → zT 97 (170, [some (zR 18 0), some (zI 0), u2, u3], [], (z_w M 18 0 24 ((M.1 18 0 24) - 1)), false) Q) ∧ (¬ ((M.1 27 0 0) ≤ 0) → (zr ((M.1 18 0 24) - 1)) ∧ ((¬ ((M.1 18 0 24) - 1) = 0 → zT 97 (170, [some (zR 18 0), some (zI 0), u2, u3], [], (z_w M 18 0 24 ((M.1 18 0 24) - 1)), false) Q) ∧ (((M.1 18 0 24) - 1) = 0 → zT 97 (85, [some (zR 18 0), some (zI 0), some (zI 0), u3], [], (z_w (z_w (z_w M 18 0 24 ((M.1 18 0 24) - 1)) 18 0 31 1) 18 0 23 ((M.1 18 0 23) + 1)), false) Q))))) ∧ ((M.1 18 0 19) = 0 → Q (.inl (some (zI 0))) M cl 0))) : zT 97 (31, [some (zR 18 0), u1, u2, u3], [], M, cl) Q := by
  refine zT.it 2 (t := (35, [some (zR 18 0), u1, u2, u3], [zI (M.1 18 0 19)], M, cl)) rfl ?_
  refine zT.br (g := zr (M.1 18 0 19)) (p := ¬ (M.1 18 0 19) = 0) (t := (40, [some (zR 18 0), u1, u2, u3], [], M, cl)) (u := (38, [some (zR 18 0), u1, u2, u3], [], M, cl)) rfl h.1 (fun c => ?_) (fun c => ?_)
  · replace h := h.2.1 c
    refine zT.it 11 (t := (57, [some (zR 18 0), some (zI 0), u2, u3], [zI 0, zR 27 0], (z_w M 18 0 24 ((M.1 18 0 24) - 1)), false)) rfl ?_
    refine zT.chk (t := (58, [some (zR 18 0), some (zI 0), u2, u3], [zI (M.1 27 0 0)], (z_w M 18 0 24 ((M.1 18 0 24) - 1)), false)) rfl (by first | decide | (dsimp only; decide)) ?_
    refine zT.br (g := zr (M.1 27 0 0)) (p := (M.1 27 0 0) ≤ 0) (t := (170, [some (zR 18 0), some (zI 0), u2, u3], [], (z_w M 18 0 24 ((M.1 18 0 24) - 1)), false)) (u := (61, [some (zR 18 0), some (zI 0), u2, u3], [], (z_w M 18 0 24 ((M.1 18 0 24) - 1)), false)) rfl h.1 (fun c => ?_) (fun c => ?_)
    · replace h := h.2.1 c
      exact h
    · replace h := h.2.2 c
      refine zT.it 2 (t := (65, [some (zR 18 0), some (zI 0), u2, u3], [zI ((M.1 18 0 24) - 1)], (z_w M 18 0 24 ((M.1 18 0 24) - 1)), false)) rfl ?_
      refine zT.br (g := zr ((M.1 18 0 24) - 1)) (p := ¬ ((M.1 18 0 24) - 1) = 0) (t := (170, [some (zR 18 0), some (zI 0), u2, u3], [], (z_w M 18 0 24 ((M.1 18 0 24) - 1)), false)) (u := (68, [some (zR 18 0), some (zI 0), u2, u3], [], (z_w M 18 0 24 ((M.1 18 0 24) - 1)), false)) rfl h.1 (fun c => ?_) (fun c => ?_)
      · replace h := h.2.1 c
        exact h
      · replace h := h.2.2 (Decidable.not_not.1 c)
        refine zT.it 2 (t := (70, [some (zR 18 0), some (zI 0), u2, u3], [zI 1, zR 18 0], (z_w M 18 0 24 ((M.1 18 0 24) - 1)), false)) rfl ?_
        refine zT.chk (t := (73, [some (zR 18 0), some (zI 0), u2, u3], [], (z_w (z_w M 18 0 24 ((M.1 18 0 24) - 1)) 18 0 31 1), false)) rfl (by first | decide | (dsimp only; decide)) ?_
        refine zT.it 8 (t := (85, [some (zR 18 0), some (zI 0), some (zI 0), u3], [], (z_w (z_w (z_w M 18 0 24 ((M.1 18 0 24) - 1)) 18 0 31 1) 18 0 23 ((M.1 18 0 23) + 1)), false)) rfl ?_
        exact h
  · replace h := h.2.2 (Decidable.not_not.1 c)
    refine zT.it 1 (t := (39, [some (zR 18 0), u1, u2, u3], [zI 0], M, cl)) rfl ?_
    exact zT.ret (v := some (zI 0)) rfl (by first | exact trivial | decide) h
theorem g97_170 {x1 : Int} {u2 : Option zV} {u3 : Option zV} {M : zM} {cl : Bool} {Q : zQ} (h : (zr (M.1 18 0 24)) ∧ ((¬ (M.1 18 0 24) = 0 → Q (.inl (some (zI x1))) M cl 0) ∧ ((M.1 18 0 24) = 0 → zF 96 [zR 18 0] M (fun v M2 => v = none ∧ ∀ cl2 : Bool, Q (.inl (some (zI x1))) M2 cl2 0)))) : zT 97 (170, [some (zR 18 0), some (zI x1), u2, u3], [], M, cl) Q := by
  refine zT.it 2 (t := (174, [some (zR 18 0), some (zI x1), u2, u3], [zI (M.1 18 0 24)], M, cl)) rfl ?_
  refine zT.br (g := zr (M.1 18 0 24)) (p := ¬ (M.1 18 0 24) = 0) (t := (181, [some (zR 18 0), some (zI x1), u2, u3], [], M, cl)) (u := (177, [some (zR 18 0), some (zI x1), u2, u3], [], M, cl)) rfl h.1 (fun c => ?_) (fun c => ?_)
  · replace h := h.2.1 c
    refine zT.it 1 (t := (182, [some (zR 18 0), some (zI x1), u2, u3], [zI x1], M, cl)) rfl ?_
    exact zT.ret (v := some (zI x1)) rfl (by first | exact trivial | decide) h
  · replace h := h.2.2 (Decidable.not_not.1 c)
    refine zT.it 1 (t := (178, [some (zR 18 0), some (zI x1), u2, u3], [zR 18 0], M, cl)) rfl ?_
    refine zT.call (m := 96) (as := [zR 18 0]) (M := M) (L := [some (zR 18 0), some (zI x1), u2, u3]) (st := []) (pn := 181) (cl := cl) rfl ?_
    refine zF.mono h (fun v M2 h cl2 => ?_)
    obtain ⟨e2, h⟩ := h; subst e2; replace h := h cl2
    show zT 97 (181, [some (zR 18 0), some (zI x1), u2, u3], [], M2, cl2) _
    refine zT.it 1 (t := (182, [some (zR 18 0), some (zI x1), u2, u3], [zI x1], M2, cl2)) rfl ?_
    exact zT.ret (v := some (zI x1)) rfl (by first | exact trivial | decide) h
theorem g97_85a0 {x1 : Int} {u3 : Option zV} {M : zM} {cl : Bool} {Q : zQ} (h : zF 94 [zR 18 0, zI 0] M (fun v M3 => ∃ r3 : Int, v = some (zI r3) ∧ ∀ cl3 : Bool, (zr r3 ∧ zr (M3.1 23 0 0)) ∧ ((r3 ≤ (M3.1 23 0 0) → (zr r3 ∧ zr (M3.1 23 0 0)) ∧ (((M3.1 23 0 0) ≤ r3 → (z_p x1 ∧ z_p 0) ∧ (zT 97 (85, [some (zR 18 0), some (zI (Int.ofNat (Int.toNat x1 ||| Int.toNat 0))), some (zI 1), some (zI r3)], [], (z_w M3 23 0 0 r3), false) Q)) ∧ (¬ ((M3.1 23 0 0) ≤ r3) → (z_p x1 ∧ z_p (9 * 2 ^ 0)) ∧ (zT 97 (85, [some (zR 18 0), some (zI (Int.ofNat (Int.toNat x1 ||| Int.toNat (9 * 2 ^ 0)))), some (zI 1), some (zI r3)], [], (z_w M3 23 0 0 r3), false) Q)))) ∧ (¬ (r3 ≤ (M3.1 23 0 0)) → (z_p x1 ∧ z_p (1 * 2 ^ 0)) ∧ (zT 97 (85, [some (zR 18 0), some (zI (Int.ofNat (Int.toNat x1 ||| Int.toNat (1 * 2 ^ 0)))), some (zI 1), some (zI r3)], [], (z_w M3 23 0 0 r3), false) Q))))) : zT 97 (85, [some (zR 18 0), some (zI x1), some (zI 0), u3], [], M, cl) Q := by
  refine zT.it 2 (t := (87, [some (zR 18 0), some (zI x1), some (zI 0), u3], [zI 3, zI 0], M, cl)) rfl ?_
  refine zT.br (g := zr 0 ∧ zr 3) (p := 3 ≤ 0) (t := (146, [some (zR 18 0), some (zI x1), some (zI 0), u3], [], M, cl)) (u := (90, [some (zR 18 0), some (zI x1), some (zI 0), u3], [], M, cl)) rfl (by decide) (fun c => absurd c (by decide)) (fun c => ?_)
  refine zT.it 2 (t := (92, [some (zR 18 0), some (zI x1), some (zI 0), u3], [zI 0, zR 18 0], M, cl)) rfl ?_
  refine zT.call (m := 94) (as := [zR 18 0, zI 0]) (M := M) (L := [some (zR 18 0), some (zI x1), some (zI 0), u3]) (st := []) (pn := 95) (cl := cl) rfl ?_
  refine zF.mono h (fun v M3 h cl3 => ?_)
  obtain ⟨r3, e3, h⟩ := h; subst e3; replace h := h cl3
  show zT 97 (95, [some (zR 18 0), some (zI x1), some (zI 0), u3], [zI r3], M3, cl3) _
  refine zT.it 6 (t := (103, [some (zR 18 0), some (zI x1), some (zI 0), some (zI r3)], [zI 0, zR 23 0, zI r3, zI x1], M3, cl3)) rfl ?_
  refine zT.chk (t := (104, [some (zR 18 0), some (zI x1), some (zI 0), some (zI r3)], [zI (M3.1 23 0 0), zI r3, zI x1], M3, cl3)) rfl (by first | decide | (dsimp only; decide)) ?_
  refine zT.br (g := zr r3 ∧ zr (M3.1 23 0 0)) (p := r3 ≤ (M3.1 23 0 0)) (t := (113, [some (zR 18 0), some (zI x1), some (zI 0), some (zI r3)], [zI x1], M3, cl3)) (u := (107, [some (zR 18 0), some (zI x1), some (zI 0), some (zI r3)], [zI x1], M3, cl3)) rfl h.1 (fun c => ?_) (fun c => ?_)
  · replace h := h.2.1 c
    refine zT.it 4 (t := (119, [some (zR 18 0), some (zI x1), some (zI 0), some (zI r3)], [zI 0, zR 23 0, zI r3, zI x1], M3, cl3)) rfl ?_
    refine zT.chk (t := (120, [some (zR 18 0), some (zI x1), some (zI 0), some (zI r3)], [zI (M3.1 23 0 0), zI r3, zI x1], M3, cl3)) rfl (by first | decide | (dsimp only; decide)) ?_
    refine zT.br (g := zr r3 ∧ zr (M3.1 23 0 0)) (p := (M3.1 23 0 0) ≤ r3) (t := (130, [some (zR 18 0), some (zI x1), some (zI 0), some (zI r3)], [zI x1], M3, cl3)) (u := (123, [some (zR 18 0), some (zI x1), some (zI 0), some (zI r3)], [zI x1], M3, cl3)) rfl h.1 (fun c => ?_) (fun c => ?_)
    · replace h := h.2.1 c
      refine zT.it 1 (t := (131, [some (zR 18 0), some (zI x1), some (zI 0), some (zI r3)], [zI 0, zI x1], M3, cl3)) rfl ?_
      refine zT.chk (p := z_p x1 ∧ z_p 0) (t := (132, [some (zR 18 0), some (zI x1), some (zI 0), some (zI r3)], [zI (Int.ofNat (Int.toNat x1 ||| Int.toNat 0))], M3, cl3)) rfl h.1 ?_
      replace h := h.2
      refine zT.it 5 (t := (139, [some (zR 18 0), some (zI (Int.ofNat (Int.toNat x1 ||| Int.toNat 0))), some (zI 0), some (zI r3)], [zI r3, zI 0, zR 23 0], M3, cl3)) rfl ?_
      refine zT.chk (t := (140, [some (zR 18 0), some (zI (Int.ofNat (Int.toNat x1 ||| Int.toNat 0))), some (zI 0), some (zI r3)], [], (z_w M3 23 0 0 r3), false)) rfl (by first | decide | (dsimp only; decide)) ?_
      refine zT.it 2 (t := (85, [some (zR 18 0), some (zI (Int.ofNat (Int.toNat x1 ||| Int.toNat 0))), some (zI 1), some (zI r3)], [], (z_w M3 23 0 0 r3), false)) rfl ?_
      exact h
    · replace h := h.2.2 c
      refine zT.it 2 (t := (126, [some (zR 18 0), some (zI x1), some (zI 0), some (zI r3)], [zI 0, zI 9, zI x1], M3, cl3)) rfl ?_
      refine zT.chk (t := (127, [some (zR 18 0), some (zI x1), some (zI 0), some (zI r3)], [zI (9 * 2 ^ 0), zI x1], M3, cl3)) rfl (by first | decide | (dsimp only; decide)) ?_
      refine zT.it 1 (t := (131, [some (zR 18 0), some (zI x1), some (zI 0), some (zI r3)], [zI (9 * 2 ^ 0), zI x1], M3, cl3)) rfl ?_
      refine zT.chk (p := z_p x1 ∧ z_p (9 * 2 ^ 0)) (t := (132, [some (zR 18 0), some (zI x1), some (zI 0), some (zI r3)], [zI (Int.ofNat (Int.toNat x1 ||| Int.toNat (9 * 2 ^ 0)))], M3, cl3)) rfl h.1 ?_
      replace h := h.2
      refine zT.it 5 (t := (139, [some (zR 18 0), some (zI (Int.ofNat (Int.toNat x1 ||| Int.toNat (9 * 2 ^ 0)))), some (zI 0), some (zI r3)], [zI r3, zI 0, zR 23 0], M3, cl3)) rfl ?_
      refine zT.chk (t := (140, [some (zR 18 0), some (zI (Int.ofNat (Int.toNat x1 ||| Int.toNat (9 * 2 ^ 0)))), some (zI 0), some (zI r3)], [], (z_w M3 23 0 0 r3), false)) rfl (by first | decide | (dsimp only; decide)) ?_
      refine zT.it 2 (t := (85, [some (zR 18 0), some (zI (Int.ofNat (Int.toNat x1 ||| Int.toNat (9 * 2 ^ 0)))), some (zI 1), some (zI r3)], [], (z_w M3 23 0 0 r3), false)) rfl ?_
      exact h
  · replace h := h.2.2 c
    refine zT.it 2 (t := (109, [some (zR 18 0), some (zI x1), some (zI 0), some (zI r3)], [zI 0, zI 1, zI x1], M3, cl3)) rfl ?_
    refine zT.chk (t := (110, [some (zR 18 0), some (zI x1), some (zI 0), some (zI r3)], [zI (1 * 2 ^ 0), zI x1], M3, cl3)) rfl (by first | decide | (dsimp only; decide)) ?_
    refine zT.it 1 (t := (131, [some (zR 18 0), some (zI x1), some (zI 0), some (zI r3)], [zI (1 * 2 ^ 0), zI x1], M3, cl3)) rfl ?_
    refine zT.chk (p := z_p x1 ∧ z_p (1 * 2 ^ 0)) (t := (132, [some (zR 18 0), some (zI x1), some (zI 0), some (zI r3)], [zI (Int.ofNat (Int.toNat x1 ||| Int.toNat (1 * 2 ^ 0)))], M3, cl3)) rfl h.1 ?_
    replace h := h.2
    refine zT.it 5 (t := (139, [some (zR 18 0), some (zI (Int.ofNat (Int.toNat x1 ||| Int.toNat (1 * 2 ^ 0)))), some (zI 0), some (zI r3)], [zI r3, zI 0, zR 23 0], M3, cl3)) rfl ?_
    refine zT.chk (t := (140, [some (zR 18 0), some (zI (Int.ofNat (Int.toNat x1 ||| Int.toNat (1 * 2 ^ 0)))), some (zI 0), some (zI r3)], [], (z_w M3 23 0 0 r3), false)) rfl (by first | decide | (dsimp only; decide)) ?_
    refine zT.it 2 (t := (85, [some (zR 18 0), some (zI (Int.ofNat (Int.toNat x1 ||| Int.toNat (1 * 2 ^ 0)))), some (zI 1), some (zI r3)], [], (z_w M3 23 0 0 r3), false)) rfl ?_
    exact h
theorem g97_85a1 {x1 : Int} {u3 : Option zV} {M : zM} {cl : Bool} {Q : zQ} (h : zF 94 [zR 18 0, zI 1] M (fun v M4 => ∃ r4 : Int, v = some (zI r4) ∧ ∀ cl4 : Bool, (zr r4 ∧ zr (M4.1 23 0 1)) ∧ ((r4 ≤ (M4.1 23 0 1) → (zr r4 ∧ zr (M4.1 23 0 1)) ∧ (((M4.1 23 0 1) ≤ r4 → (z_p x1 ∧ z_p 0) ∧ (zT 97 (85, [some (zR 18 0), some (zI (Int.ofNat (Int.toNat x1 ||| Int.toNat 0))), some (zI 2), some (zI r4)], [], (z_w M4 23 0 1 r4), false) Q)) ∧ (¬ ((M4.1 23 0 1) ≤ r4) → (z_p x1 ∧ z_p (9 * 2 ^ 1)) ∧ (zT 97 (85, [some (zR 18 0), some (zI (Int.ofNat (Int.toNat x1 ||| Int.toNat (9 * 2 ^ 1)))), some (zI 2), some (zI r4)], [], (z_w M4 23 0 1 r4), false) Q)))) ∧ (¬ (r4 ≤ (M4.1 23 0 1)) → (z_p x1 ∧ z_p (1 * 2 ^ 1)) ∧ (zT 97 (85, [some (zR 18 0), some (zI (Int.ofNat (Int.toNat x1 ||| Int.toNat (1 * 2 ^ 1)))), some (zI 2), some (zI r4)], [], (z_w M4 23 0 1 r4), false) Q))))) : zT 97 (85, [some (zR 18 0), some (zI x1), some (zI 1), u3], [], M, cl) Q := by
  refine zT.it 2 (t := (87, [some (zR 18 0), some (zI x1), some (zI 1), u3], [zI 3, zI 1], M, cl)) rfl ?_
  refine zT.br (g := zr 1 ∧ zr 3) (p := 3 ≤ 1) (t := (146, [some (zR 18 0), some (zI x1), some (zI 1), u3], [], M, cl)) (u := (90, [some (zR 18 0), some (zI x1), some (zI 1), u3], [], M, cl)) rfl (by decide) (fun c => absurd c (by decide)) (fun c => ?_)
  refine zT.it 2 (t := (92, [some (zR 18 0), some (zI x1), some (zI 1), u3], [zI 1, zR 18 0], M, cl)) rfl ?_
  refine zT.call (m := 94) (as := [zR 18 0, zI 1]) (M := M) (L := [some (zR 18 0), some (zI x1), some (zI 1), u3]) (st := []) (pn := 95) (cl := cl) rfl ?_
  refine zF.mono h (fun v M4 h cl4 => ?_)
  obtain ⟨r4, e4, h⟩ := h; subst e4; replace h := h cl4
  show zT 97 (95, [some (zR 18 0), some (zI x1), some (zI 1), u3], [zI r4], M4, cl4) _
  refine zT.it 6 (t := (103, [some (zR 18 0), some (zI x1), some (zI 1), some (zI r4)], [zI 1, zR 23 0, zI r4, zI x1], M4, cl4)) rfl ?_
  refine zT.chk (t := (104, [some (zR 18 0), some (zI x1), some (zI 1), some (zI r4)], [zI (M4.1 23 0 1), zI r4, zI x1], M4, cl4)) rfl (by first | decide | (dsimp only; decide)) ?_
  refine zT.br (g := zr r4 ∧ zr (M4.1 23 0 1)) (p := r4 ≤ (M4.1 23 0 1)) (t := (113, [some (zR 18 0), some (zI x1), some (zI 1), some (zI r4)], [zI x1], M4, cl4)) (u := (107, [some (zR 18 0), some (zI x1), some (zI 1), some (zI r4)], [zI x1], M4, cl4)) rfl h.1 (fun c => ?_) (fun c => ?_)
  · replace h := h.2.1 c
    refine zT.it 4 (t := (119, [some (zR 18 0), some (zI x1), some (zI 1), some (zI r4)], [zI 1, zR 23 0, zI r4, zI x1], M4, cl4)) rfl ?_
    refine zT.chk (t := (120, [some (zR 18 0), some (zI x1), some (zI 1), some (zI r4)], [zI (M4.1 23 0 1), zI r4, zI x1], M4, cl4)) rfl (by first | decide | (dsimp only; decide)) ?_
    refine zT.br (g := zr r4 ∧ zr (M4.1 23 0 1)) (p := (M4.1 23 0 1) ≤ r4) (t := (130, [some (zR 18 0), some (zI x1), some (zI 1), some (zI r4)], [zI x1], M4, cl4)) (u := (123, [some (zR 18 0), some (zI x1), some (zI 1), some (zI r4)], [zI x1], M4, cl4)) rfl h.1 (fun c => ?_) (fun c => ?_)
    · replace h := h.2.1 c
      refine zT.it 1 (t := (131, [some (zR 18 0), some (zI x1), some (zI 1), some (zI r4)], [zI 0, zI x1], M4, cl4)) rfl ?_
      refine zT.chk (p := z_p x1 ∧ z_p 0) (t := (132, [some (zR 18 0), some (zI x1), some (zI 1), some (zI r4)], [zI (Int.ofNat (Int.toNat x1 ||| Int.toNat 0))], M4, cl4)) rfl h.1 ?_
      replace h := h.2
      refine zT.it 5 (t := (139, [some (zR 18 0), some (zI (Int.ofNat (Int.toNat x1 ||| Int.toNat 0))), some (zI 1), some (zI r4)], [zI r4, zI 1, zR 23 0], M4, cl4)) rfl ?_
      refine zT.chk (t := (140, [some (zR 18 0), some (zI (Int.ofNat (Int.toNat x1 ||| Int.toNat 0))), some (zI 1), some (zI r4)], [], (z_w M4 23 0 1 r4), false)) rfl (by first | decide | (dsimp only; decide)) ?_
      refine zT.it 2 (t := (85, [some (zR 18 0), some (zI (Int.ofNat (Int.toNat x1 ||| Int.toNat 0))), some (zI 2), some (zI r4)], [], (z_w M4 23 0 1 r4), false)) rfl ?_
      exact h
    · replace h := h.2.2 c
      refine zT.it 2 (t := (126, [some (zR 18 0), some (zI x1), some (zI 1), some (zI r4)], [zI 1, zI 9, zI x1], M4, cl4)) rfl ?_
      refine zT.chk (t := (127, [some (zR 18 0), some (zI x1), some (zI 1), some (zI r4)], [zI (9 * 2 ^ 1), zI x1], M4, cl4)) rfl (by first | decide | (dsimp only; decide)) ?_
      refine zT.it 1 (t := (131, [some (zR 18 0), some (zI x1), some (zI 1), some (zI r4)], [zI (9 * 2 ^ 1), zI x1], M4, cl4)) rfl ?_
      refine zT.chk (p := z_p x1 ∧ z_p (9 * 2 ^ 1)) (t := (132, [some (zR 18 0), some (zI x1), some (zI 1), some (zI r4)], [zI (Int.ofNat (Int.toNat x1 ||| Int.toNat (9 * 2 ^ 1)))], M4, cl4)) rfl h.1 ?_
      replace h := h.2
      refine zT.it 5 (t := (139, [some (zR 18 0), some (zI (Int.ofNat (Int.toNat x1 ||| Int.toNat (9 * 2 ^ 1)))), some (zI 1), some (zI r4)], [zI r4, zI 1, zR 23 0], M4, cl4)) rfl ?_
      refine zT.chk (t := (140, [some (zR 18 0), some (zI (Int.ofNat (Int.toNat x1 ||| Int.toNat (9 * 2 ^ 1)))), some (zI 1), some (zI r4)], [], (z_w M4 23 0 1 r4), false)) rfl (by first | decide | (dsimp only; decide)) ?_
      refine zT.it 2 (t := (85, [some (zR 18 0), some (zI (Int.ofNat (Int.toNat x1 ||| Int.toNat (9 * 2 ^ 1)))), some (zI 2), some (zI r4)], [], (z_w M4 23 0 1 r4), false)) rfl ?_
      exact h
  · replace h := h.2.2 c
    refine zT.it 2 (t := (109, [some (zR 18 0), some (zI x1), some (zI 1), some (zI r4)], [zI 1, zI 1, zI x1], M4, cl4)) rfl ?_
    refine zT.chk (t := (110, [some (zR 18 0), some (zI x1), some (zI 1), some (zI r4)], [zI (1 * 2 ^ 1), zI x1], M4, cl4)) rfl (by first | decide | (dsimp only; decide)) ?_
    refine zT.it 1 (t := (131, [some (zR 18 0), some (zI x1), some (zI 1), some (zI r4)], [zI (1 * 2 ^ 1), zI x1], M4, cl4)) rfl ?_
    refine zT.chk (p := z_p x1 ∧ z_p (1 * 2 ^ 1)) (t := (132, [some (zR 18 0), some (zI x1), some (zI 1), some (zI r4)], [zI (Int.ofNat (Int.toNat x1 ||| Int.toNat (1 * 2 ^ 1)))], M4, cl4)) rfl h.1 ?_
    replace h := h.2
    refine zT.it 5 (t := (139, [some (zR 18 0), some (zI (Int.ofNat (Int.toNat x1 ||| Int.toNat (1 * 2 ^ 1)))), some (zI 1), some (zI r4)], [zI r4, zI 1, zR 23 0], M4, cl4)) rfl ?_
    refine zT.chk (t := (140, [some (zR 18 0), some (zI (Int.ofNat (Int.toNat x1 ||| Int.toNat (1 * 2 ^ 1)))), some (zI 1), some (zI r4)], [], (z_w M4 23 0 1 r4), false)) rfl (by first | decide | (dsimp only; decide)) ?_
    refine zT.it 2 (t := (85, [some (zR 18 0), some (zI (Int.ofNat (Int.toNat x1 ||| Int.toNat (1 * 2 ^ 1)))), some (zI 2), some (zI r4)], [], (z_w M4 23 0 1 r4), false)) rfl ?_
    exact h
theorem g97_85a2 {x1 : Int} {u3 : Option zV} {M : zM} {cl : Bool} {Q : zQ} (h : zF 94 [zR 18 0, zI 2] M (fun v M5 => ∃ r5 : Int, v = some (zI r5) ∧ ∀ cl5 : Bool, (zr r5 ∧ zr (M5.1 23 0 2)) ∧ ((r5 ≤ (M5.1 23 0 2) → (zr r5 ∧ zr (M5.1 23 0 2)) ∧ (((M5.1 23 0 2) ≤ r5 → (z_p x1 ∧ z_p 0) ∧ (zT 97 (85, [some (zR 18 0), some (zI (Int.ofNat (Int.toNat x1 ||| Int.toNat 0))), some (zI 3), some (zI r5)], [], (z_w M5 23 0 2 r5), false) Q)) ∧ (¬ ((M5.1 23 0 2) ≤ r5) → (z_p x1 ∧ z_p (9 * 2 ^ 2)) ∧ (zT 97 (85, [some (zR 18 0), some (zI (Int.ofNat (Int.toNat x1 ||| Int.toNat (9 * 2 ^ 2)))), some (zI 3), some (zI r5)], [], (z_w M5 23 0 2 r5), false) Q)))) ∧ (¬ (r5 ≤ (M5.1 23 0 2)) → (z_p x1 ∧ z_p (1 * 2 ^ 2)) ∧ (zT 97 (85, [some (zR 18 0), some (zI (Int.ofNat (Int.toNat x1 ||| Int.toNat (1 * 2 ^ 2)))), some (zI 3), some (zI r5)], [], (z_w M5 23 0 2 r5), false) Q))))) : zT 97 (85, [some (zR 18 0), some (zI x1), some (zI 2), u3], [], M, cl) Q := by
  refine zT.it 2 (t := (87, [some (zR 18 0), some (zI x1), some (zI 2), u3], [zI 3, zI 2], M, cl)) rfl ?_
  refine zT.br (g := zr 2 ∧ zr 3) (p := 3 ≤ 2) (t := (146, [some (zR 18 0), some (zI x1), some (zI 2), u3], [], M, cl)) (u := (90, [some (zR 18 0), some (zI x1), some (zI 2), u3], [], M, cl)) rfl (by decide) (fun c => absurd c (by decide)) (fun c => ?_)
  refine zT.it 2 (t := (92, [some (zR 18 0), some (zI x1), some (zI 2), u3], [zI 2, zR 18 0], M, cl)) rfl ?_
  refine zT.call (m := 94) (as := [zR 18 0, zI 2]) (M := M) (L := [some (zR 18 0), some (zI x1), some (zI 2), u3]) (st := []) (pn := 95) (cl := cl) rfl ?_
  refine zF.mono h (fun v M5 h cl5 => ?_)
  obtain ⟨r5, e5, h⟩ := h; subst e5; replace h := h cl5
  show zT 97 (95, [some (zR 18 0), some (zI x1), some (zI 2), u3], [zI r5], M5, cl5) _
  refine zT.it 6 (t := (103, [some (zR 18 0), some (zI x1), some (zI 2), some (zI r5)], [zI 2, zR 23 0, zI r5, zI x1], M5, cl5)) rfl ?_
  refine zT.chk (t := (104, [some (zR 18 0), some (zI x1), some (zI 2), some (zI r5)], [zI (M5.1 23 0 2), zI r5, zI x1], M5, cl5)) rfl (by first | decide | (dsimp only; decide)) ?_
  refine zT.br (g := zr r5 ∧ zr (M5.1 23 0 2)) (p := r5 ≤ (M5.1 23 0 2)) (t := (113, [some (zR 18 0), some (zI x1), some (zI 2), some (zI r5)], [zI x1], M5, cl5)) (u := (107, [some (zR 18 0), some (zI x1), some (zI 2), some (zI r5)], [zI x1], M5, cl5)) rfl h.1 (fun c => ?_) (fun c => ?_)
  · replace h := h.2.1 c
    refine zT.it 4 (t := (119, [some (zR 18 0), some (zI x1), some (zI 2), some (zI r5)], [zI 2, zR 23 0, zI r5, zI x1], M5, cl5)) rfl ?_
    refine zT.chk (t := (120, [some (zR 18 0), some (zI x1), some (zI 2), some (zI r5)], [zI (M5.1 23 0 2), zI r5, zI x1], M5, cl5)) rfl (by first | decide | (dsimp only; decide)) ?_
    refine zT.br (g := zr r5 ∧ zr (M5.1 23 0 2)) (p := (M5.1 23 0 2) ≤ r5) (t := (130, [some (zR 18 0), some (zI x1), some (zI 2), some (zI r5)], [zI x1], M5, cl5)) (u := (123, [some (zR 18 0), some (zI x1), some (zI 2), some (zI r5)], [zI x1], M5, cl5)) rfl h.1 (fun c => ?_) (fun c => ?_)
    · replace h := h.2.1 c
      refine zT.it 1 (t := (131, [some (zR 18 0), some (zI x1), some (zI 2), some (zI r5)], [zI 0, zI x1], M5, cl5)) rfl ?_
      refine zT.chk (p := z_p x1 ∧ z_p 0) (t := (132, [some (zR 18 0), some (zI x1), some (zI 2), some (zI r5)], [zI (Int.ofNat (Int.toNat x1 ||| Int.toNat 0))], M5, cl5)) rfl h.1 ?_
      replace h := h.2
      refine zT.it 5 (t := (139, [some (zR 18 0), some (zI (Int.ofNat (Int.toNat x1 ||| Int.toNat 0))), some (zI 2), some (zI r5)], [zI r5, zI 2, zR 23 0], M5, cl5)) rfl ?_
      refine zT.chk (t := (140, [some (zR 18 0), some (zI (Int.ofNat (Int.toNat x1 ||| Int.toNat 0))), some (zI 2), some (zI r5)], [], (z_w M5 23 0 2 r5), false)) rfl (by first | decide | (dsimp only; decide)) ?_
      refine zT.it 2 (t := (85, [some (zR 18 0), some (zI (Int.ofNat (Int.toNat x1 ||| Int.toNat 0))), some (zI 3), some (zI r5)], [], (z_w M5 23 0 2 r5), false)) rfl ?_
      exact h
    · replace h := h.2.2 c
      refine zT.it 2 (t := (126, [some (zR 18 0), some (zI x1), some (zI 2), some (zI r5)], [zI 2, zI 9, zI x1], M5, cl5)) rfl ?_
      refine zT.chk (t := (127, [some (zR 18 0), some (zI x1), some (zI 2), some (zI r5)], [zI (9 * 2 ^ 2), zI x1], M5, cl5)) rfl (by first | decide | (dsimp only; decide)) ?_
      refine zT.it 1 (t := (131, [some (zR 18 0), some (zI x1), some (zI 2), some (zI r5)], [zI (9 * 2 ^ 2), zI x1], M5, cl5)) rfl ?_
      refine zT.chk (p := z_p x1 ∧ z_p (9 * 2 ^ 2)) (t := (132, [some (zR 18 0), some (zI x1), some (zI 2), some (zI r5)], [zI (Int.ofNat (Int.toNat x1 ||| Int.toNat (9 * 2 ^ 2)))], M5, cl5)) rfl h.1 ?_
      replace h := h.2
      refine zT.it 5 (t := (139, [some (zR 18 0), some (zI (Int.ofNat (Int.toNat x1 ||| Int.toNat (9 * 2 ^ 2)))), some (zI 2), some (zI r5)], [zI r5, zI 2, zR 23 0], M5, cl5)) rfl ?_
      refine zT.chk (t := (140, [some (zR 18 0), some (zI (Int.ofNat (Int.toNat x1 ||| Int.toNat (9 * 2 ^ 2)))), some (zI 2), some (zI r5)], [], (z_w M5 23 0 2 r5), false)) rfl (by first | decide | (dsimp only; decide)) ?_
      refine zT.it 2 (t := (85, [some (zR 18 0), some (zI (Int.ofNat (Int.toNat x1 ||| Int.toNat (9 * 2 ^ 2)))), some (zI 3), some (zI r5)], [], (z_w M5 23 0 2 r5), false)) rfl ?_
      exact h
  · replace h := h.2.2 c
    refine zT.it 2 (t := (109, [some (zR 18 0), some (zI x1), some (zI 2), some (zI r5)], [zI 2, zI 1, zI x1], M5, cl5)) rfl ?_
    refine zT.chk (t := (110, [some (zR 18 0), some (zI x1), some (zI 2), some (zI r5)], [zI (1 * 2 ^ 2), zI x1], M5, cl5)) rfl (by first | decide | (dsimp only; decide)) ?_
    refine zT.it 1 (t := (131, [some (zR 18 0), some (zI x1), some (zI 2), some (zI r5)], [zI (1 * 2 ^ 2), zI x1], M5, cl5)) rfl ?_
    refine zT.chk (p := z_p x1 ∧ z_p (1 * 2 ^ 2)) (t := (132, [some (zR 18 0), some (zI x1), some (zI 2), some (zI r5)], [zI (Int.ofNat (Int.toNat x1 ||| Int.toNat (1 * 2 ^ 2)))], M5, cl5)) rfl h.1 ?_
    replace h := h.2
    refine zT.it 5 (t := (139, [some (zR 18 0), some (zI (Int.ofNat (Int.toNat x1 ||| Int.toNat (1 * 2 ^ 2)))), some (zI 2), some (zI r5)], [zI r5, zI 2, zR 23 0], M5, cl5)) rfl ?_
    refine zT.chk (t := (140, [some (zR 18 0), some (zI (Int.ofNat (Int.toNat x1 ||| Int.toNat (1 * 2 ^ 2)))), some (zI 2), some (zI r5)], [], (z_w M5 23 0 2 r5), false)) rfl (by first | decide | (dsimp only; decide)) ?_
    refine zT.it 2 (t := (85, [some (zR 18 0), some (zI (Int.ofNat (Int.toNat x1 ||| Int.toNat (1 * 2 ^ 2)))), some (zI 3), some (zI r5)], [], (z_w M5 23 0 2 r5), false)) rfl ?_
    exact h
theorem g97_85a3 {x1 : Int} {u3 : Option zV} {M : zM} {cl : Bool} {Q : zQ} (h : zF 89 [zR 18 0, zI 0] M (fun v M6 => ∃ r6 : Int, v = some (zI r6) ∧ ∀ cl6 : Bool, (zr (M.1 18 0 23) ∧ zr r6) ∧ ((r6 ≤ (M.1 18 0 23) → zT 97 (170, [some (zR 18 0), some (zI x1), some (zI 3), u3], [], (z_w M6 18 0 24 0), false) Q) ∧ (¬ (r6 ≤ (M.1 18 0 23)) → zF 92 [zR 18 0] M6 (fun v M7 => ∃ r7 : Int, v = some (zI r7) ∧ ∀ cl7 : Bool, zT 97 (170, [some (zR 18 0), some (zI x1), some (zI 3), u3], [], (z_w M7 18 0 24 r7), false) Q))))) : zT 97 (85, [some (zR 18 0), some (zI x1), some (zI 3), u3], [], M, cl) Q := by
  refine zT.it 2 (t := (87, [some (zR 18 0), some (zI x1), some (zI 3), u3], [zI 3, zI 3], M, cl)) rfl ?_
  refine zT.br (g := zr 3 ∧ zr 3) (p := 3 ≤ 3) (t := (146, [some (zR 18 0), some (zI x1), some (zI 3), u3], [], M, cl)) (u := (90, [some (zR 18 0), some (zI x1), some (zI 3), u3], [], M, cl)) rfl (by decide) (fun c => ?_) (fun c => absurd (by decide) c)
  refine zT.it 5 (t := (153, [some (zR 18 0), some (zI x1), some (zI 3), u3], [zI 0, zR 18 0, zI (M.1 18 0 23), zR 18 0], M, cl)) rfl ?_
  refine zT.call (m := 89) (as := [zR 18 0, zI 0]) (M := M) (L := [some (zR 18 0), some (zI x1), some (zI 3), u3]) (st := [zI (M.1 18 0 23), zR 18 0]) (pn := 156) (cl := cl) rfl ?_
  refine zF.mono h (fun v M6 h cl6 => ?_)
  obtain ⟨r6, e6, h⟩ := h; subst e6; replace h := h cl6
  show zT 97 (156, [some (zR 18 0), some (zI x1), some (zI 3), u3], [zI r6, zI (M.1 18 0 23), zR 18 0], M6, cl6) _
  refine zT.br (g := zr (M.1 18 0 23) ∧ zr r6) (p := r6 ≤ (M.1 18 0 23)) (t := (166, [some (zR 18 0), some (zI x1), some (zI 3), u3], [zR 18 0], M6, cl6)) (u := (159, [some (zR 18 0), some (zI x1), some (zI 3), u3], [zR 18 0], M6, cl6)) rfl h.1 (fun c => ?_) (fun c => ?_)
  · replace h := h.2.1 c
    refine zT.it 2 (t := (170, [some (zR 18 0), some (zI x1), some (zI 3), u3], [], (z_w M6 18 0 24 0), false)) rfl ?_
    exact h
  · replace h := h.2.2 c
    refine zT.it 1 (t := (160, [some (zR 18 0), some (zI x1), some (zI 3), u3], [zR 18 0, zR 18 0], M6, cl6)) rfl ?_
    refine zT.call (m := 92) (as := [zR 18 0]) (M := M6) (L := [some (zR 18 0), some (zI x1), some (zI 3), u3]) (st := [zR 18 0]) (pn := 163) (cl := cl6) rfl ?_
    refine zF.mono h (fun v M7 h cl7 => ?_)
    obtain ⟨r7, e7, h⟩ := h; subst e7; replace h := h cl7
    show zT 97 (163, [some (zR 18 0), some (zI x1), some (zI 3), u3], [zI r7, zR 18 0], M7, cl7) _
    refine zT.it 2 (t := (170, [some (zR 18 0), some (zI x1), some (zI 3), u3], [], (z_w M7 18 0 24 r7), false)) rfl ?_
    exact h
theorem g98_0 {M : zM} {Q : zQ} (h : zF 50 [zR 18 0] M (fun v M1 => ∃ r1 : Int, v = some (zI r1) ∧ ∀ cl1 : Bool, (zr r1) ∧ ((r1 = 0 → Q (.inl (some (zI 0))) M1 cl1 0) ∧ (¬ (r1 = 0) → zF 97 [zR 18 0] M1 (fun v M2 => ∃ r2 : Int, v = some (zI r2) ∧ ∀ cl2 : Bool, Q (.inl (some (zI r2))) M2 cl2 0))))) : zT 98 (0, [some (zR 18 0)], [], M, true) Q := by
  refine zT.it 1 (t := (1, [some (zR 18 0)], [zR 18 0], M, true)) rfl ?_
  refine zT.call (m := 50) (as := [zR 18 0]) (M := M) (L := [some (zR 18 0)]) (st := []) (pn := 4) (cl := true) rfl ?_
  refine zF.mono h (fun v M1 h cl1 => ?_)
  obtain ⟨r1, e1, h⟩ := h; subst e1; replace h := h cl1
  show zT 98 (4, [some (zR 18 0)], [zI r1], M1, cl1) _
  refine zT.br (g := zr r1) (p := r1 = 0) (t := (14, [some (zR 18 0)], [], M1, cl1)) (u := (7, [some (zR 18 0)], [], M1, cl1)) rfl h.1 (fun c => ?_) (fun c => ?_)
  · replace h := h.2.1 c
    refine zT.it 1 (t := (15, [some (zR 18 0)], [zI 0], M1, cl1)) rfl ?_
    exact zT.ret (v := some (zI 0)) rfl (by first | exact trivial | decide) h
  · replace h := h.2.2 c
    refine zT.it 1 (t := (8, [some (zR 18 0)], [zR 18 0], M1, cl1)) rfl ?_
    refine zT.call (m := 97) (as := [zR 18 0]) (M := M1) (L := [some (zR 18 0)]) (st := []) (pn := 11) (cl := cl1) rfl ?_
    refine zF.mono h (fun v M2 h cl2 => ?_)
    obtain ⟨r2, e2, h⟩ := h; subst e2; replace h := h cl2
    show zT 98 (11, [some (zR 18 0)], [zI r2], M2, cl2) _
    refine zT.it 1 (t := (15, [some (zR 18 0)], [zI r2], M2, cl2)) rfl ?_
    exact zT.ret (v := some (zI r2)) rfl (by first | exact trivial | decide) h
theorem g99_0 {a1 : Int} {M : zM} {Q : zQ} (h : zF 35 [zI a1, zI ((M.1 8 0 6) - 1)] M (fun v M1 => ∃ r1 : Int, v = some (zI r1) ∧ ∀ cl1 : Bool, zF 32 [zI 0, zI r1] M1 (fun v M2 => ∃ r2 : Int, v = some (zI r2) ∧ ∀ cl2 : Bool, Q (.inl (some (zI r2))) (z_w M2 8 0 6 ((M2.1 8 0 6) - r2)) false 0))) : zT 99 (0, [some (zR 8 0), some (zI a1), none], [], M, true) Q := by
  refine zT.it 6 (t := (8, [some (zR 8 0), some (zI a1), none], [zI ((M.1 8 0 6) - 1), zI a1, zI 0], M, true)) rfl ?_
  refine zT.call (m := 35) (as := [zI a1, zI ((M.1 8 0 6) - 1)]) (M := M) (L := [some (zR 8 0), some (zI a1), none]) (st := [zI 0]) (pn := 11) (cl := true) rfl ?_
  refine zF.mono h (fun v M1 h cl1 => ?_)
  obtain ⟨r1, e1, h⟩ := h; subst e1; replace h := h cl1
  show zT 99 (11, [some (zR 8 0), some (zI a1), none], [zI r1, zI 0], M1, cl1) _
  refine zT.call (m := 32) (as := [zI 0, zI r1]) (M := M1) (L := [some (zR 8 0), some (zI a1), none]) (st := []) (pn := 14) (cl := cl1) rfl ?_
  refine zF.mono h (fun v M2 h cl2 => ?_)
  obtain ⟨r2, e2, h⟩ := h; subst e2; replace h := h cl2
  show zT 99 (14, [some (zR 8 0), some (zI a1), none], [zI r2], M2, cl2) _
  refine zT.it 8 (t := (26, [some (zR 8 0), some (zI a1), some (zI r2)], [zI r2], (z_w M2 8 0 6 ((M2.1 8 0 6) - r2)), false)) rfl ?_
  exact zT.ret (v := some (zI r2)) rfl (by first | exact trivial | decide) h
theorem g100_0 {a1 : Int} {M : zM} {Q : zQ} (h : zF 72 [zR 0 0] M (fun v M1 => v = none ∧ ∀ cl1 : Bool, (zr (M1.1 8 0 4)) ∧ (((M1.1 8 0 4) = 0 → Q (.inl (some (zI a1))) M1 cl1 0) ∧ (¬ ((M1.1 8 0 4) = 0) → zF 99 [zR 8 0, zI a1] M1 (fun v M2 => ∃ r2 : Int, v = some (zI r2) ∧ ∀ cl2 : Bool, Q (.inl (some (zI r2))) M2 cl2 0))))) : zT 100 (0, [some (zR 0 0), some (zI a1)], [], M, true) Q := by
  refine zT.it 1 (t := (1, [some (zR 0 0), some (zI a1)], [zR 0 0], M, true)) rfl ?_
  refine zT.call (m := 72) (as := [zR 0 0]) (M := M) (L := [some (zR 0 0), some (zI a1)]) (st := []) (pn := 4) (cl := true) rfl ?_
  refine zF.mono h (fun v M1 h cl1 => ?_)
  obtain ⟨e1, h⟩ := h; subst e1; replace h := h cl1
  show zT 100 (4, [some (zR 0 0), some (zI a1)], [], M1, cl1) _
  refine zT.it 3 (t := (11, [some (zR 0 0), some (zI a1)], [zI (M1.1 8 0 4)], M1, cl1)) rfl ?_
  refine zT.br (g := zr (M1.1 8 0 4)) (p := (M1.1 8 0 4) = 0) (t := (25, [some (zR 0 0), some (zI a1)], [], M1, cl1)) (u := (14, [some (zR 0 0), some (zI a1)], [], M1, cl1)) rfl h.1 (fun c => ?_) (fun c => ?_)
  · replace h := h.2.1 c
    refine zT.it 1 (t := (26, [some (zR 0 0), some (zI a1)], [zI a1], M1, cl1)) rfl ?_
    exact zT.ret (v := some (zI a1)) rfl (by first | exact trivial | decide) h
  · replace h := h.2.2 c
    refine zT.it 3 (t := (19, [some (zR 0 0), some (zI a1)], [zI a1, zR 8 0], M1, cl1)) rfl ?_
    refine zT.call (m := 99) (as := [zR 8 0, zI a1]) (M := M1) (L := [some (zR 0 0), some (zI a1)]) (st := []) (pn := 22) (cl := cl1) rfl ?_
    refine zF.mono h (fun v M2 h cl2 => ?_)
    obtain ⟨r2, e2, h⟩ := h; subst e2; replace h := h cl2
    show zT 100 (22, [some (zR 0 0), some (zI a1)], [zI r2], M2, cl2) _
    refine zT.it 1 (t := (26, [some (zR 0 0), some (zI a1)], [zI r2], M2, cl2)) rfl ?_
    exact zT.ret (v := some (zI r2)) rfl (by first | exact trivial | decide) h
theorem g101_0 {a1 : Int} {M : zM} {Q : zQ} (h : (zr a1 ∧ zr 1) ∧ ((a1 < 1 → Q (.inr 1) M true 1) ∧ (¬ (a1 < 1) → (zr a1 ∧ zr 20000) ∧ ((a1 ≤ 20000 → zX 7 [zR 0 0] M (fun v M1 c => c = true ∧ v = none ∧ zT 101 (30, [some (zR 0 0), some (zI a1), some (zI 0), some (zI 0)], [], M1, true) Q) (fun x M1 => Q (.inr x) M1 true 1)) ∧ (¬ (a1 ≤ 20000) → Q (.inr 1) M true 1))))) : zT 101 (0, [some (zR 0 0), some (zI a1), none, none], [], M, true) Q := by
  refine zT.it 2 (t := (2, [some (zR 0 0), some (zI a1), none, none], [zI 1, zI a1], M, true)) rfl ?_
  refine zT.br (g := zr a1 ∧ zr 1) (p := a1 < 1) (t := (12, [some (zR 0 0), some (zI a1), none, none], [], M, true)) (u := (5, [some (zR 0 0), some (zI a1), none, none], [], M, true)) rfl h.1 (fun c => ?_) (fun c => ?_)
  · replace h := h.2.1 c
    exact zT.thr (x := 1) rfl h
  · replace h := h.2.2 c
    refine zT.it 2 (t := (9, [some (zR 0 0), some (zI a1), none, none], [zI 20000, zI a1], M, true)) rfl ?_
    refine zT.br (g := zr a1 ∧ zr 20000) (p := a1 ≤ 20000) (t := (22, [some (zR 0 0), some (zI a1), none, none], [], M, true)) (u := (12, [some (zR 0 0), some (zI a1), none, none], [], M, true)) rfl h.1 (fun c => ?_) (fun c => ?_)
    · replace h := h.2.1 c
      refine zT.it 1 (t := (23, [some (zR 0 0), some (zI a1), none, none], [zR 0 0], M, true)) rfl ?_
      refine zT.callx (m := 7) (as := [zR 0 0]) (M := M) (L := [some (zR 0 0), some (zI a1), none, none]) (st := []) (pn := 26) (cl := true) rfl rfl rfl ?_
      refine zX.mono h (fun v M1 c h => ?_) (fun _ _ h => ⟨rfl, h⟩)
      obtain ⟨hc, e1, h⟩ := h; subst hc; subst e1
      show zT 101 (26, [some (zR 0 0), some (zI a1), none, none], [], M1, true) _
      refine zT.it 4 (t := (30, [some (zR 0 0), some (zI a1), some (zI 0), some (zI 0)], [], M1, true)) rfl ?_
      exact h
    · replace h := h.2.2 c
      exact zT.thr (x := 1) rfl h
theorem g101_30 {x1 : Int} {x2 : Int} {x3 : Int} {M : zM} {cl : Bool} {Q : zQ} (h : (zr x3 ∧ zr x1) ∧ ((x1 ≤ x3 → Q (.inl (some (zI x2))) M cl 0) ∧ (¬ (x1 ≤ x3) → (zr (M.1 0 0 9)) ∧ (((M.1 0 0 9) = 0 → Q (.inl (some (zI x2))) M cl 0) ∧ (¬ ((M.1 0 0 9) = 0) → zF 100 [zR 0 0, zI ((x1 - 1) - x3)] M (fun v M2 => ∃ r2 : Int, v = some (zI r2) ∧ ∀ cl2 : Bool, zF 83 [zR 0 0] M2 (fun v M3 => ∃ r3 : Int, v = some (zI r3) ∧ ∀ cl3 : Bool, (zr r3) ∧ ((r3 = 0 → zT 101 (30, [some (zR 0 0), some (zI x1), some (zI x2), some (zI ((x3 + r2) + 1))], [], M3, cl3) Q) ∧ (¬ (r3 = 0) → zT 101 (30, [some (zR 0 0), some (zI x1), some (zI (x2 + 1)), some (zI ((x3 + r2) + 1))], [], M3, cl3) Q))))))))) : zT 101 (30, [some (zR 0 0), some (zI x1), some (zI x2), some (zI x3)], [], M, cl) Q := by
  refine zT.it 2 (t := (32, [some (zR 0 0), some (zI x1), some (zI x2), some (zI x3)], [zI x1, zI x3], M, cl)) rfl ?_
  refine zT.br (g := zr x3 ∧ zr x1) (p := x1 ≤ x3) (t := (70, [some (zR 0 0), some (zI x1), some (zI x2), some (zI x3)], [], M, cl)) (u := (35, [some (zR 0 0), some (zI x1), some (zI x2), some (zI x3)], [], M, cl)) rfl h.1 (fun c => ?_) (fun c => ?_)
  · replace h := h.2.1 c
    refine zT.it 1 (t := (71, [some (zR 0 0), some (zI x1), some (zI x2), some (zI x3)], [zI x2], M, cl)) rfl ?_
    exact zT.ret (v := some (zI x2)) rfl (by first | exact trivial | decide) h
  · replace h := h.2.2 c
    refine zT.it 2 (t := (39, [some (zR 0 0), some (zI x1), some (zI x2), some (zI x3)], [zI (M.1 0 0 9)], M, cl)) rfl ?_
    refine zT.br (g := zr (M.1 0 0 9)) (p := (M.1 0 0 9) = 0) (t := (70, [some (zR 0 0), some (zI x1), some (zI x2), some (zI x3)], [], M, cl)) (u := (42, [some (zR 0 0), some (zI x1), some (zI x2), some (zI x3)], [], M, cl)) rfl h.1 (fun c => ?_) (fun c => ?_)
    · replace h := h.2.1 c
      refine zT.it 1 (t := (71, [some (zR 0 0), some (zI x1), some (zI x2), some (zI x3)], [zI x2], M, cl)) rfl ?_
      exact zT.ret (v := some (zI x2)) rfl (by first | exact trivial | decide) h
    · replace h := h.2.2 c
      refine zT.it 7 (t := (49, [some (zR 0 0), some (zI x1), some (zI x2), some (zI x3)], [zI ((x1 - 1) - x3), zR 0 0, zI x3], M, cl)) rfl ?_
      refine zT.call (m := 100) (as := [zR 0 0, zI ((x1 - 1) - x3)]) (M := M) (L := [some (zR 0 0), some (zI x1), some (zI x2), some (zI x3)]) (st := [zI x3]) (pn := 52) (cl := cl) rfl ?_
      refine zF.mono h (fun v M2 h cl2 => ?_)
      obtain ⟨r2, e2, h⟩ := h; subst e2; replace h := h cl2
      show zT 101 (52, [some (zR 0 0), some (zI x1), some (zI x2), some (zI x3)], [zI r2, zI x3], M2, cl2) _
      refine zT.it 3 (t := (55, [some (zR 0 0), some (zI x1), some (zI x2), some (zI (x3 + r2))], [zR 0 0], M2, cl2)) rfl ?_
      refine zT.call (m := 83) (as := [zR 0 0]) (M := M2) (L := [some (zR 0 0), some (zI x1), some (zI x2), some (zI (x3 + r2))]) (st := []) (pn := 58) (cl := cl2) rfl ?_
      refine zF.mono h (fun v M3 h cl3 => ?_)
      obtain ⟨r3, e3, h⟩ := h; subst e3; replace h := h cl3
      show zT 101 (58, [some (zR 0 0), some (zI x1), some (zI x2), some (zI (x3 + r2))], [zI r3], M3, cl3) _
      refine zT.br (g := zr r3) (p := r3 = 0) (t := (64, [some (zR 0 0), some (zI x1), some (zI x2), some (zI (x3 + r2))], [], M3, cl3)) (u := (61, [some (zR 0 0), some (zI x1), some (zI x2), some (zI (x3 + r2))], [], M3, cl3)) rfl h.1 (fun c => ?_) (fun c => ?_)
      · replace h := h.2.1 c
        refine zT.it 2 (t := (30, [some (zR 0 0), some (zI x1), some (zI x2), some (zI ((x3 + r2) + 1))], [], M3, cl3)) rfl ?_
        exact h
      · replace h := h.2.2 c
        refine zT.it 3 (t := (30, [some (zR 0 0), some (zI x1), some (zI (x2 + 1)), some (zI ((x3 + r2) + 1))], [], M3, cl3)) rfl ?_
        exact h
theorem g102_0 {a2 : Int} {M : zM} {Q : zQ} (h : zX 101 [zR 0 0, zI a2] M (fun v M1 c => ∃ r1 : Int, v = some (zI r1) ∧ ∀ cl1 : Bool, (zr r1) ∧ (Q (.inl (some (zI 0))) (z_wl M1 31 0 0 r1) false 0)) (fun x M1 => ∃ a, xm_hd 102 4 x = some a ∧ Q (.inl (some (zI a.toInt))) M1 true 1)) : zT 102 (0, [some (zR 0 0), some (zI a2), some (zR 31 0), none], [], M, true) Q := by
  refine zT.it 4 (t := (4, [some (zR 0 0), some (zI a2), some (zR 31 0), none], [zI a2, zR 0 0, zI 0, zR 31 0], M, true)) rfl ?_
  refine zT.callh (m := 101) (as := [zR 0 0, zI a2]) (M := M) (L := [some (zR 0 0), some (zI a2), some (zR 31 0), none]) (st := [zI 0, zR 31 0]) (pn := 7) (cl := true) rfl ?_
  refine zX.mono h (fun v M1 c h => ?_) (fun _ _ h => h)
  obtain ⟨r1, e1, h⟩ := h; subst e1; replace h := h (true && c)
  generalize (true && c) = cl1 at h ⊢
  show zT 102 (7, [some (zR 0 0), some (zI a2), some (zR 31 0), none], [zI r1, zI 0, zR 31 0], M1, cl1) _
  refine zT.chk (p := zr r1) (t := (8, [some (zR 0 0), some (zI a2), some (zR 31 0), none], [zJ r1, zI 0, zR 31 0], M1, cl1)) rfl h.1 ?_
  replace h := h.2
  refine zT.chk (t := (9, [some (zR 0 0), some (zI a2), some (zR 31 0), none], [], (z_wl M1 31 0 0 r1), false)) rfl (by first | decide | (dsimp only; decide)) ?_
  refine zT.it 2 (t := (19, [some (zR 0 0), some (zI a2), some (zR 31 0), none], [zI 0], (z_wl M1 31 0 0 r1), false)) rfl ?_
  exact zT.ret (v := some (zI 0)) rfl (by first | exact trivial | decide) h
theorem g103_0 {a1 : Int} {M : zM} {Q : zQ} (h : (zr a1 ∧ zr 1) ∧ ((a1 < 1 → Q (.inl (some (zI 0))) (z_w M 18 0 1 1) false 0) ∧ (¬ (a1 < 1) → (zr a1 ∧ zr 20000) ∧ ((a1 ≤ 20000 → zF 50 [zR 18 0] M (fun v M1 => ∃ r1 : Int, v = some (zI r1) ∧ ∀ cl1 : Bool, (zr r1) ∧ ((¬ r1 = 0 → zT 103 (37, [some (zR 18 0), some (zI a1), some (zI 0), some (zI 0)], [], M1, cl1) Q) ∧ (r1 = 0 → Q (.inl (some (zI 0))) (z_w M1 18 0 1 2) false 0)))) ∧ (¬ (a1 ≤ 20000) → Q (.inl (some (zI 0))) (z_w M 18 0 1 1) false 0))))) : zT 103 (0, [some (zR 18 0), some (zI a1), none, none], [], M, true) Q := by
  refine zT.it 2 (t := (2, [some (zR 18 0), some (zI a1), none, none], [zI 1, zI a1], M, true)) rfl ?_
  refine zT.br (g := zr a1 ∧ zr 1) (p := a1 < 1) (t := (12, [some (zR 18 0), some (zI a1), none, none], [], M, true)) (u := (5, [some (zR 18 0), some (zI a1), none, none], [], M, true)) rfl h.1 (fun c => ?_) (fun c => ?_)
  · replace h := h.2.1 c
    refine zT.it 4 (t := (18, [some (zR 18 0), some (zI a1), none, none], [zI 0], (z_w M 18 0 1 1), false)) rfl ?_
    exact zT.ret (v := some (zI 0)) rfl (by first | exact trivial | decide) h
  · replace h := h.2.2 c
    refine zT.it 2 (t := (9, [some (zR 18 0), some (zI a1), none, none], [zI 20000, zI a1], M, true)) rfl ?_
    refine zT.br (g := zr a1 ∧ zr 20000) (p := a1 ≤ 20000) (t := (19, [some (zR 18 0), some (zI a1), none, none], [], M, true)) (u := (12, [some (zR 18 0), some (zI a1), none, none], [], M, true)) rfl h.1 (fun c => ?_) (fun c => ?_)
    · replace h := h.2.1 c
      refine zT.it 1 (t := (20, [some (zR 18 0), some (zI a1), none, none], [zR 18 0], M, true)) rfl ?_
      refine zT.call (m := 50) (as := [zR 18 0]) (M := M) (L := [some (zR 18 0), some (zI a1), none, none]) (st := []) (pn := 23) (cl := true) rfl ?_
      refine zF.mono h (fun v M1 h cl1 => ?_)
      obtain ⟨r1, e1, h⟩ := h; subst e1; replace h := h cl1
      show zT 103 (23, [some (zR 18 0), some (zI a1), none, none], [zI r1], M1, cl1) _
      refine zT.br (g := zr r1) (p := ¬ r1 = 0) (t := (33, [some (zR 18 0), some (zI a1), none, none], [], M1, cl1)) (u := (26, [some (zR 18 0), some (zI a1), none, none], [], M1, cl1)) rfl h.1 (fun c => ?_) (fun c => ?_)
      · replace h := h.2.1 c
        refine zT.it 4 (t := (37, [some (zR 18 0), some (zI a1), some (zI 0), some (zI 0)], [], M1, cl1)) rfl ?_
        exact h
      · replace h := h.2.2 (Decidable.not_not.1 c)
        refine zT.it 4 (t := (32, [some (zR 18 0), some (zI a1), none, none], [zI 0], (z_w M1 18 0 1 2), false)) rfl ?_
        exact zT.ret (v := some (zI 0)) rfl (by first | exact trivial | decide) h
    · replace h := h.2.2 c
      refine zT.it 4 (t := (18, [some (zR 18 0), some (zI a1), none, none], [zI 0], (z_w M 18 0 1 1), false)) rfl ?_
      exact zT.ret (v := some (zI 0)) rfl (by first | exact trivial | decide) h
theorem g103_37 {x1 : Int} {x2 : Int} {x3 : Int} {M : zM} {cl : Bool} {Q : zQ} (h : (zr x3 ∧ zr x1) ∧ ((x1 ≤ x3 → Q (.inl (some (zI x2))) M cl 0) ∧ (¬ (x1 ≤ x3) → (zr (M.1 18 0 26)) ∧ ((¬ (M.1 18 0 26) = 0 → Q (.inl (some (zI x2))) M cl 0) ∧ ((M.1 18 0 26) = 0 → zF 97 [zR 18 0] M (fun v M2 => ∃ r2 : Int, v = some (zI r2) ∧ ∀ cl2 : Bool, (zr (M2.1 18 0 31)) ∧ (((M2.1 18 0 31) = 0 → zT 103 (37, [some (zR 18 0), some (zI x1), some (zI (x2 + 0)), some (zI (x3 + 1))], [], M2, cl2) Q) ∧ (¬ ((M2.1 18 0 31) = 0) → zT 103 (37, [some (zR 18 0), some (zI x1), some (zI (x2 + 1)), some (zI (x3 + 1))], [], M2, cl2) Q)))))))) : zT 103 (37, [some (zR 18 0), some (zI x1), some (zI x2), some (zI x3)], [], M, cl) Q := by
  refine zT.it 2 (t := (39, [some (zR 18 0), some (zI x1), some (zI x2), some (zI x3)], [zI x1, zI x3], M, cl)) rfl ?_
  refine zT.br (g := zr x3 ∧ zr x1) (p := x1 ≤ x3) (t := (75, [some (zR 18 0), some (zI x1), some (zI x2), some (zI x3)], [], M, cl)) (u := (42, [some (zR 18 0), some (zI x1), some (zI x2), some (zI x3)], [], M, cl)) rfl h.1 (fun c => ?_) (fun c => ?_)
  · replace h := h.2.1 c
    refine zT.it 1 (t := (76, [some (zR 18 0), some (zI x1), some (zI x2), some (zI x3)], [zI x2], M, cl)) rfl ?_
    exact zT.ret (v := some (zI x2)) rfl (by first | exact trivial | decide) h
  · replace h := h.2.2 c
    refine zT.it 2 (t := (46, [some (zR 18 0), some (zI x1), some (zI x2), some (zI x3)], [zI (M.1 18 0 26)], M, cl)) rfl ?_
    refine zT.br (g := zr (M.1 18 0 26)) (p := ¬ (M.1 18 0 26) = 0) (t := (75, [some (zR 18 0), some (zI x1), some (zI x2), some (zI x3)], [], M, cl)) (u := (49, [some (zR 18 0), some (zI x1), some (zI x2), some (zI x3)], [], M, cl)) rfl h.1 (fun c => ?_) (fun c => ?_)
    · replace h := h.2.1 c
      refine zT.it 1 (t := (76, [some (zR 18 0), some (zI x1), some (zI x2), some (zI x3)], [zI x2], M, cl)) rfl ?_
      exact zT.ret (v := some (zI x2)) rfl (by first | exact trivial | decide) h
    · replace h := h.2.2 (Decidable.not_not.1 c)
      refine zT.it 1 (t := (50, [some (zR 18 0), some (zI x1), some (zI x2), some (zI x3)], [zR 18 0], M, cl)) rfl ?_
      refine zT.call (m := 97) (as := [zR 18 0]) (M := M) (L := [some (zR 18 0), some (zI x1), some (zI x2), some (zI x3)]) (st := []) (pn := 53) (cl := cl) rfl ?_
      refine zF.mono h (fun v M2 h cl2 => ?_)
      obtain ⟨r2, e2, h⟩ := h; subst e2; replace h := h cl2
      show zT 103 (53, [some (zR 18 0), some (zI x1), some (zI x2), some (zI x3)], [zI r2], M2, cl2) _
      refine zT.it 4 (t := (59, [some (zR 18 0), some (zI x1), some (zI x2), some (zI x3)], [zI (M2.1 18 0 31), zI x2], M2, cl2)) rfl ?_
      refine zT.br (g := zr (M2.1 18 0 31)) (p := (M2.1 18 0 31) = 0) (t := (66, [some (zR 18 0), some (zI x1), some (zI x2), some (zI x3)], [zI x2], M2, cl2)) (u := (62, [some (zR 18 0), some (zI x1), some (zI x2), some (zI x3)], [zI x2], M2, cl2)) rfl h.1 (fun c => ?_) (fun c => ?_)
      · replace h := h.2.1 c
        refine zT.it 5 (t := (37, [some (zR 18 0), some (zI x1), some (zI (x2 + 0)), some (zI (x3 + 1))], [], M2, cl2)) rfl ?_
        exact h
      · replace h := h.2.2 c
        refine zT.it 6 (t := (37, [some (zR 18 0), some (zI x1), some (zI (x2 + 1)), some (zI (x3 + 1))], [], M2, cl2)) rfl ?_
        exact h
theorem g104_0 {a1 : Int} {M : zM} {Q : zQ} (h : (zr a1) ∧ ((a1 < 0 → Q (.inr 1) M true 1) ∧ (¬ (a1 < 0) → (zr a1 ∧ zr 3) ∧ ((a1 < 3 → Q (.inl none) M true 0) ∧ (¬ (a1 < 3) → Q (.inr 1) M true 1))))) : zT 104 (0, [some (zI a1)], [], M, true) Q := by
  refine zT.it 1 (t := (1, [some (zI a1)], [zI a1], M, true)) rfl ?_
  refine zT.br (g := zr a1) (p := a1 < 0) (t := (9, [some (zI a1)], [], M, true)) (u := (4, [some (zI a1)], [], M, true)) rfl h.1 (fun c => ?_) (fun c => ?_)
  · replace h := h.2.1 c
    exact zT.thr (x := 1) rfl h
  · replace h := h.2.2 c
    refine zT.it 2 (t := (6, [some (zI a1)], [zI 3, zI a1], M, true)) rfl ?_
    refine zT.br (g := zr a1 ∧ zr 3) (p := a1 < 3) (t := (19, [some (zI a1)], [], M, true)) (u := (9, [some (zI a1)], [], M, true)) rfl h.1 (fun c => ?_) (fun c => ?_)
    · replace h := h.2.1 c
      exact zT.ret (v := none) rfl trivial h
    · replace h := h.2.2 c
      exact zT.thr (x := 1) rfl h
theorem g105_0 {a1 : Int} {M : zM} {Q : zQ} (h : zX 104 [zI a1] M (fun v M1 c => c = true ∧ v = none ∧ (z_wi a1 3) ∧ (Q (.inl (some (zI (M1.1 14 0 a1.toNat)))) M1 true 0)) (fun x M1 => Q (.inr x) M1 true 1)) : zT 105 (0, [some (zR 0 0), some (zI a1)], [], M, true) Q := by
  refine zT.it 1 (t := (1, [some (zR 0 0), some (zI a1)], [zI a1], M, true)) rfl ?_
  refine zT.callx (m := 104) (as := [zI a1]) (M := M) (L := [some (zR 0 0), some (zI a1)]) (st := []) (pn := 4) (cl := true) rfl rfl rfl ?_
  refine zX.mono h (fun v M1 c h => ?_) (fun _ _ h => ⟨rfl, h⟩)
  obtain ⟨hc, e1, h⟩ := h; subst hc; subst e1
  show zT 105 (4, [some (zR 0 0), some (zI a1)], [], M1, true) _
  refine zT.it 3 (t := (9, [some (zR 0 0), some (zI a1)], [zI a1, zR 14 0], M1, true)) rfl ?_
  refine zT.chk (p := z_wi a1 3) (t := (10, [some (zR 0 0), some (zI a1)], [zI (M1.1 14 0 a1.toNat)], M1, true)) rfl h.1 ?_
  replace h := h.2
  exact zT.ret (v := some (zI (M1.1 14 0 a1.toNat))) rfl (by first | exact trivial | decide) h
theorem g106_0 {a2 : Int} {M : zM} {Q : zQ} (h : zX 105 [zR 0 0, zI a2] M (fun v M1 c => ∃ r1 : Int, v = some (zI r1) ∧ ∀ cl1 : Bool, (zr r1) ∧ (Q (.inl (some (zI 0))) (z_wl M1 31 0 0 r1) false 0)) (fun x M1 => ∃ a, xm_hd 106 4 x = some a ∧ Q (.inl (some (zI a.toInt))) M1 true 1)) : zT 106 (0, [some (zR 0 0), some (zI a2), some (zR 31 0), none], [], M, true) Q := by
  refine zT.it 4 (t := (4, [some (zR 0 0), some (zI a2), some (zR 31 0), none], [zI a2, zR 0 0, zI 0, zR 31 0], M, true)) rfl ?_
  refine zT.callh (m := 105) (as := [zR 0 0, zI a2]) (M := M) (L := [some (zR 0 0), some (zI a2), some (zR 31 0), none]) (st := [zI 0, zR 31 0]) (pn := 7) (cl := true) rfl ?_
  refine zX.mono h (fun v M1 c h => ?_) (fun _ _ h => h)
  obtain ⟨r1, e1, h⟩ := h; subst e1; replace h := h (true && c)
  generalize (true && c) = cl1 at h ⊢
  show zT 106 (7, [some (zR 0 0), some (zI a2), some (zR 31 0), none], [zI r1, zI 0, zR 31 0], M1, cl1) _
  refine zT.chk (p := zr r1) (t := (8, [some (zR 0 0), some (zI a2), some (zR 31 0), none], [zJ r1, zI 0, zR 31 0], M1, cl1)) rfl h.1 ?_
  replace h := h.2
  refine zT.chk (t := (9, [some (zR 0 0), some (zI a2), some (zR 31 0), none], [], (z_wl M1 31 0 0 r1), false)) rfl (by first | decide | (dsimp only; decide)) ?_
  refine zT.it 2 (t := (16, [some (zR 0 0), some (zI a2), some (zR 31 0), none], [zI 0], (z_wl M1 31 0 0 r1), false)) rfl ?_
  exact zT.ret (v := some (zI 0)) rfl (by first | exact trivial | decide) h
theorem g107_0 {a1 : Int} {M : zM} {Q : zQ} (h : (zr a1) ∧ ((a1 < 0 → Q (.inl (some (zI 0))) (z_w M 18 0 1 1) false 0) ∧ (¬ (a1 < 0) → (zr a1 ∧ zr 2) ∧ ((a1 ≤ 2 → (z_wi a1 3) ∧ (Q (.inl (some (zI (M.1 23 0 a1.toNat)))) (z_w M 18 0 1 0) false 0)) ∧ (¬ (a1 ≤ 2) → Q (.inl (some (zI 0))) (z_w M 18 0 1 1) false 0))))) : zT 107 (0, [some (zR 18 0), some (zI a1)], [], M, true) Q := by
  refine zT.it 2 (t := (2, [some (zR 18 0), some (zI a1)], [zI a1, zR 18 0], M, true)) rfl ?_
  refine zT.br (g := zr a1) (p := a1 < 0) (t := (10, [some (zR 18 0), some (zI a1)], [zR 18 0], M, true)) (u := (5, [some (zR 18 0), some (zI a1)], [zR 18 0], M, true)) rfl h.1 (fun c => ?_) (fun c => ?_)
  · replace h := h.2.1 c
    refine zT.it 5 (t := (22, [some (zR 18 0), some (zI a1)], [zI 1], (z_w M 18 0 1 1), false)) rfl ?_
    refine zT.br (g := zr 1) (p := 1 ≤ 0) (t := (29, [some (zR 18 0), some (zI a1)], [], (z_w M 18 0 1 1), false)) (u := (25, [some (zR 18 0), some (zI a1)], [], (z_w M 18 0 1 1), false)) rfl (by decide) (fun c => absurd c (by decide)) (fun c => ?_)
    refine zT.it 2 (t := (35, [some (zR 18 0), some (zI a1)], [zI 0], (z_w M 18 0 1 1), false)) rfl ?_
    exact zT.ret (v := some (zI 0)) rfl (by first | exact trivial | decide) h
  · replace h := h.2.2 c
    refine zT.it 2 (t := (7, [some (zR 18 0), some (zI a1)], [zI 2, zI a1, zR 18 0], M, true)) rfl ?_
    refine zT.br (g := zr a1 ∧ zr 2) (p := a1 ≤ 2) (t := (14, [some (zR 18 0), some (zI a1)], [zR 18 0], M, true)) (u := (10, [some (zR 18 0), some (zI a1)], [zR 18 0], M, true)) rfl h.1 (fun c => ?_) (fun c => ?_)
    · replace h := h.2.1 c
      refine zT.it 4 (t := (22, [some (zR 18 0), some (zI a1)], [zI 0], (z_w M 18 0 1 0), false)) rfl ?_
      refine zT.br (g := zr 0) (p := 0 ≤ 0) (t := (29, [some (zR 18 0), some (zI a1)], [], (z_w M 18 0 1 0), false)) (u := (25, [some (zR 18 0), some (zI a1)], [], (z_w M 18 0 1 0), false)) rfl (by decide) (fun c => ?_) (fun c => absurd (by decide) c)
      refine zT.it 3 (t := (34, [some (zR 18 0), some (zI a1)], [zI a1, zR 23 0], (z_w M 18 0 1 0), false)) rfl ?_
      refine zT.chk (p := z_wi a1 3) (t := (35, [some (zR 18 0), some (zI a1)], [zI (M.1 23 0 a1.toNat)], (z_w M 18 0 1 0), false)) rfl h.1 ?_
      replace h := h.2
      exact zT.ret (v := some (zI (M.1 23 0 a1.toNat))) rfl (by first | exact trivial | decide) h
    · replace h := h.2.2 c
      refine zT.it 5 (t := (22, [some (zR 18 0), some (zI a1)], [zI 1], (z_w M 18 0 1 1), false)) rfl ?_
      refine zT.br (g := zr 1) (p := 1 ≤ 0) (t := (29, [some (zR 18 0), some (zI a1)], [], (z_w M 18 0 1 1), false)) (u := (25, [some (zR 18 0), some (zI a1)], [], (z_w M 18 0 1 1), false)) rfl (by decide) (fun c => absurd c (by decide)) (fun c => ?_)
      refine zT.it 2 (t := (35, [some (zR 18 0), some (zI a1)], [zI 0], (z_w M 18 0 1 1), false)) rfl ?_
      exact zT.ret (v := some (zI 0)) rfl (by first | exact trivial | decide) h
theorem g108_0 {a1 : Int} {M : zM} {Q : zQ} (h : zX 104 [zI a1] M (fun v M1 c => c = true ∧ v = none ∧ (z_wi a1 3) ∧ (Q (.inl (some (zI (M1.1 15 0 a1.toNat)))) M1 true 0)) (fun x M1 => Q (.inr x) M1 true 1)) : zT 108 (0, [some (zR 0 0), some (zI a1)], [], M, true) Q := by
  refine zT.it 1 (t := (1, [some (zR 0 0), some (zI a1)], [zI a1], M, true)) rfl ?_
  refine zT.callx (m := 104) (as := [zI a1]) (M := M) (L := [some (zR 0 0), some (zI a1)]) (st := []) (pn := 4) (cl := true) rfl rfl rfl ?_
  refine zX.mono h (fun v M1 c h => ?_) (fun _ _ h => ⟨rfl, h⟩)
  obtain ⟨hc, e1, h⟩ := h; subst hc; subst e1
  show zT 108 (4, [some (zR 0 0), some (zI a1)], [], M1, true) _
  refine zT.it 3 (t := (9, [some (zR 0 0), some (zI a1)], [zI a1, zR 15 0], M1, true)) rfl ?_
  refine zT.chk (p := z_wi a1 3) (t := (10, [some (zR 0 0), some (zI a1)], [zI (M1.1 15 0 a1.toNat)], M1, true)) rfl h.1 ?_
  replace h := h.2
  exact zT.ret (v := some (zI (M1.1 15 0 a1.toNat))) rfl (by first | exact trivial | decide) h
theorem g109_0 {a2 : Int} {M : zM} {Q : zQ} (h : zX 108 [zR 0 0, zI a2] M (fun v M1 c => ∃ r1 : Int, v = some (zI r1) ∧ ∀ cl1 : Bool, (zr r1) ∧ (Q (.inl (some (zI 0))) (z_wl M1 31 0 0 r1) false 0)) (fun x M1 => ∃ a, xm_hd 109 4 x = some a ∧ Q (.inl (some (zI a.toInt))) M1 true 1)) : zT 109 (0, [some (zR 0 0), some (zI a2), some (zR 31 0), none], [], M, true) Q := by
  refine zT.it 4 (t := (4, [some (zR 0 0), some (zI a2), some (zR 31 0), none], [zI a2, zR 0 0, zI 0, zR 31 0], M, true)) rfl ?_
  refine zT.callh (m := 108) (as := [zR 0 0, zI a2]) (M := M) (L := [some (zR 0 0), some (zI a2), some (zR 31 0), none]) (st := [zI 0, zR 31 0]) (pn := 7) (cl := true) rfl ?_
  refine zX.mono h (fun v M1 c h => ?_) (fun _ _ h => h)
  obtain ⟨r1, e1, h⟩ := h; subst e1; replace h := h (true && c)
  generalize (true && c) = cl1 at h ⊢
  show zT 109 (7, [some (zR 0 0), some (zI a2), some (zR 31 0), none], [zI r1, zI 0, zR 31 0], M1, cl1) _
  refine zT.chk (p := zr r1) (t := (8, [some (zR 0 0), some (zI a2), some (zR 31 0), none], [zJ r1, zI 0, zR 31 0], M1, cl1)) rfl h.1 ?_
  replace h := h.2
  refine zT.chk (t := (9, [some (zR 0 0), some (zI a2), some (zR 31 0), none], [], (z_wl M1 31 0 0 r1), false)) rfl (by first | decide | (dsimp only; decide)) ?_
  refine zT.it 2 (t := (16, [some (zR 0 0), some (zI a2), some (zR 31 0), none], [zI 0], (z_wl M1 31 0 0 r1), false)) rfl ?_
  exact zT.ret (v := some (zI 0)) rfl (by first | exact trivial | decide) h
theorem g110_0 {a1 : Int} {M : zM} {Q : zQ} (h : (zr a1) ∧ ((a1 < 0 → Q (.inl (some (zI 0))) (z_w M 18 0 1 1) false 0) ∧ (¬ (a1 < 0) → (zr a1 ∧ zr 2) ∧ ((a1 ≤ 2 → (z_wi a1 3) ∧ (Q (.inl (some (zI (M.1 24 0 a1.toNat)))) (z_w M 18 0 1 0) false 0)) ∧ (¬ (a1 ≤ 2) → Q (.inl (some (zI 0))) (z_w M 18 0 1 1) false 0))))) : zT 110 (0, [some (zR 18 0), some (zI a1)], [], M, true) Q := by
  refine zT.it 2 (t := (2, [some (zR 18 0), some (zI a1)], [zI a1, zR 18 0], M, true)) rfl ?_
  refine zT.br (g := zr a1) (p := a1 < 0) (t := (10, [some (zR 18 0), some (zI a1)], [zR 18 0], M, true)) (u := (5, [some (zR 18 0), some (zI a1)], [zR 18 0], M, true)) rfl h.1 (fun c => ?_) (fun c => ?_)
  · replace h := h.2.1 c
    refine zT.it 5 (t := (22, [some (zR 18 0), some (zI a1)], [zI 1], (z_w M 18 0 1 1), false)) rfl ?_
    refine zT.br (g := zr 1) (p := 1 ≤ 0) (t := (29, [some (zR 18 0), some (zI a1)], [], (z_w M 18 0 1 1), false)) (u := (25, [some (zR 18 0), some (zI a1)], [], (z_w M 18 0 1 1), false)) rfl (by decide) (fun c => absurd c (by decide)) (fun c => ?_)
    refine zT.it 2 (t := (35, [some (zR 18 0), some (zI a1)], [zI 0], (z_w M 18 0 1 1), false)) rfl ?_
    exact zT.ret (v := some (zI 0)) rfl (by first | exact trivial | decide) h
  · replace h := h.2.2 c
    refine zT.it 2 (t := (7, [some (zR 18 0), some (zI a1)], [zI 2, zI a1, zR 18 0], M, true)) rfl ?_
    refine zT.br (g := zr a1 ∧ zr 2) (p := a1 ≤ 2) (t := (14, [some (zR 18 0), some (zI a1)], [zR 18 0], M, true)) (u := (10, [some (zR 18 0), some (zI a1)], [zR 18 0], M, true)) rfl h.1 (fun c => ?_) (fun c => ?_)
    · replace h := h.2.1 c
      refine zT.it 4 (t := (22, [some (zR 18 0), some (zI a1)], [zI 0], (z_w M 18 0 1 0), false)) rfl ?_
      refine zT.br (g := zr 0) (p := 0 ≤ 0) (t := (29, [some (zR 18 0), some (zI a1)], [], (z_w M 18 0 1 0), false)) (u := (25, [some (zR 18 0), some (zI a1)], [], (z_w M 18 0 1 0), false)) rfl (by decide) (fun c => ?_) (fun c => absurd (by decide) c)
      refine zT.it 3 (t := (34, [some (zR 18 0), some (zI a1)], [zI a1, zR 24 0], (z_w M 18 0 1 0), false)) rfl ?_
      refine zT.chk (p := z_wi a1 3) (t := (35, [some (zR 18 0), some (zI a1)], [zI (M.1 24 0 a1.toNat)], (z_w M 18 0 1 0), false)) rfl h.1 ?_
      replace h := h.2
      exact zT.ret (v := some (zI (M.1 24 0 a1.toNat))) rfl (by first | exact trivial | decide) h
    · replace h := h.2.2 c
      refine zT.it 5 (t := (22, [some (zR 18 0), some (zI a1)], [zI 1], (z_w M 18 0 1 1), false)) rfl ?_
      refine zT.br (g := zr 1) (p := 1 ≤ 0) (t := (29, [some (zR 18 0), some (zI a1)], [], (z_w M 18 0 1 1), false)) (u := (25, [some (zR 18 0), some (zI a1)], [], (z_w M 18 0 1 1), false)) rfl (by decide) (fun c => absurd c (by decide)) (fun c => ?_)
      refine zT.it 2 (t := (35, [some (zR 18 0), some (zI a1)], [zI 0], (z_w M 18 0 1 1), false)) rfl ?_
      exact zT.ret (v := some (zI 0)) rfl (by first | exact trivial | decide) h
theorem g111_0 {M : zM} {Q : zQ} (h : Q (.inl (some (zI (M.1 8 0 3)))) M true 0) : zT 111 (0, [some (zR 0 0)], [], M, true) Q := by
  refine zT.it 3 (t := (7, [some (zR 0 0)], [zI (M.1 8 0 3)], M, true)) rfl ?_
  exact zT.ret (v := some (zI (M.1 8 0 3))) rfl (by first | exact trivial | decide) h
theorem g112_0 {M : zM} {Q : zQ} (h : Q (.inl (some (zI (M.1 18 0 15)))) (z_w M 18 0 1 0) false 0) : zT 112 (0, [some (zR 18 0)], [], M, true) Q := by
  refine zT.it 5 (t := (9, [some (zR 18 0)], [zI (M.1 18 0 15)], (z_w M 18 0 1 0), false)) rfl ?_
  exact zT.ret (v := some (zI (M.1 18 0 15))) rfl (by first | exact trivial | decide) h
theorem g113_0 {a1 : Int} {a2 : Int} {M : zM} {Q : zQ} (h : (zr a2) ∧ ((a2 < 0 → Q (.inr 1) M true 1) ∧ (¬ (a2 < 0) → (zr a2 ∧ zr 3) ∧ ((a2 ≤ 3 → (zr a1) ∧ ((a1 < 0 → Q (.inr 2) M true 1) ∧ (¬ (a1 < 0) → (zr a1 ∧ zr (M.1 8 0 3)) ∧ ((a1 < (M.1 8 0 3) → zF 31 [zR 8 0, zI a1] M (fun v M1 => ∃ r1 : Nat, v = some (zR 10 r1) ∧ ∀ cl1 : Bool, (zr a2) ∧ (a2 = 0 → Q (.inl (some (zI (M1.1 10 r1 3)))) M1 cl1 0) ∧ (a2 = 1 → zF 67 [zR 8 0, zI a1] M1 (fun v M2 => ∃ r2 : Int, v = some (zI r2) ∧ ∀ cl2 : Bool, Q (.inl (some (zI r2))) M2 cl2 0)) ∧ (a2 = 2 → Q (.inl (some (zI (M1.1 10 r1 1)))) M1 cl1 0) ∧ (¬ (a2 = 0) → ¬ (a2 = 1) → ¬ (a2 = 2) → Q (.inl (some (zI (M1.1 10 r1 2)))) M1 cl1 0))) ∧ (¬ (a1 < (M.1 8 0 3)) → Q (.inr 2) M true 1))))) ∧ (¬ (a2 ≤ 3) → Q (.inr 1) M true 1))))) : zT 113 (0, [some (zR 0 0), some (zI a1), some (zI a2), none], [], M, true) Q := by
  refine zT.it 1 (t := (1, [some (zR 0 0), some (zI a1), some (zI a2), none], [zI a2], M, true)) rfl ?_
  refine zT.br (g := zr a2) (p := a2 < 0) (t := (9, [some (zR 0 0), some (zI a1), some (zI a2), none], [], M, true)) (u := (4, [some (zR 0 0), some (zI a1), some (zI a2), none], [], M, true)) rfl h.1 (fun c => ?_) (fun c => ?_)
  · replace h := h.2.1 c
    exact zT.thr (x := 1) rfl h
  · replace h := h.2.2 c
    refine zT.it 2 (t := (6, [some (zR 0 0), some (zI a1), some (zI a2), none], [zI 3, zI a2], M, true)) rfl ?_
    refine zT.br (g := zr a2 ∧ zr 3) (p := a2 ≤ 3) (t := (19, [some (zR 0 0), some (zI a1), some (zI a2), none], [], M, true)) (u := (9, [some (zR 0 0), some (zI a1), some (zI a2), none], [], M, true)) rfl h.1 (fun c => ?_) (fun c => ?_)
    · replace h := h.2.1 c
      refine zT.it 1 (t := (20, [some (zR 0 0), some (zI a1), some (zI a2), none], [zI a1], M, true)) rfl ?_
      refine zT.br (g := zr a1) (p := a1 < 0) (t := (34, [some (zR 0 0), some (zI a1), some (zI a2), none], [], M, true)) (u := (23, [some (zR 0 0), some (zI a1), some (zI a2), none], [], M, true)) rfl h.1 (fun c => ?_) (fun c => ?_)
      · replace h := h.2.1 c
        exact zT.thr (x := 2) rfl h
      · replace h := h.2.2 c
        refine zT.it 4 (t := (31, [some (zR 0 0), some (zI a1), some (zI a2), none], [zI (M.1 8 0 3), zI a1], M, true)) rfl ?_
        refine zT.br (g := zr a1 ∧ zr (M.1 8 0 3)) (p := a1 < (M.1 8 0 3)) (t := (44, [some (zR 0 0), some (zI a1), some (zI a2), none], [], M, true)) (u := (34, [some (zR 0 0), some (zI a1), some (zI a2), none], [], M, true)) rfl h.1 (fun c => ?_) (fun c => ?_)
        · replace h := h.2.1 c
          refine zT.it 3 (t := (49, [some (zR 0 0), some (zI a1), some (zI a2), none], [zI a1, zR 8 0], M, true)) rfl ?_
          refine zT.call (m := 31) (as := [zR 8 0, zI a1]) (M := M) (L := [some (zR 0 0), some (zI a1), some (zI a2), none]) (st := []) (pn := 52) (cl := true) rfl ?_
          refine zF.mono h (fun v M1 h cl1 => ?_)
          obtain ⟨r1, e1, h⟩ := h; subst e1; replace h := h cl1
          show zT 113 (52, [some (zR 0 0), some (zI a1), some (zI a2), none], [zR 10 r1], M1, cl1) _
          refine zT.it 2 (t := (54, [some (zR 0 0), some (zI a1), some (zI a2), some (zR 10 r1)], [zI a2], M1, cl1)) rfl ?_
          refine zT.it 1 (t := (xm_tsw 54 45 0 2 #[26, 31, 40] (zi a2), [some (zR 0 0), some (zI a1), some (zI a2), some (zR 10 r1)], [], M1, cl1)) rfl ?_
          obtain ⟨hx, h⟩ := h
          by_cases c0 : a2 = 0
          · replace h := h.1 c0
            rw [show xm_tsw 54 45 0 2 #[26, 31, 40] (zi a2) = 80 from (by rw [c0]; rfl)]
            refine zT.it 2 (t := (84, [some (zR 0 0), some (zI a1), some (zI a2), some (zR 10 r1)], [zI (M1.1 10 r1 3)], M1, cl1)) rfl ?_
            exact zT.ret (v := some (zI (M1.1 10 r1 3))) rfl (by first | exact trivial | decide) h
          replace h := h.2
          by_cases c1 : a2 = 1
          · replace h := h.1 c1
            rw [show xm_tsw 54 45 0 2 #[26, 31, 40] (zi a2) = 85 from (by rw [c1]; rfl)]
            refine zT.it 3 (t := (90, [some (zR 0 0), some (zI a1), some (zI a2), some (zR 10 r1)], [zI a1, zR 8 0], M1, cl1)) rfl ?_
            refine zT.call (m := 67) (as := [zR 8 0, zI a1]) (M := M1) (L := [some (zR 0 0), some (zI a1), some (zI a2), some (zR 10 r1)]) (st := []) (pn := 93) (cl := cl1) rfl ?_
            refine zF.mono h (fun v M2 h cl2 => ?_)
            obtain ⟨r2, e2, h⟩ := h; subst e2; replace h := h cl2
            show zT 113 (93, [some (zR 0 0), some (zI a1), some (zI a2), some (zR 10 r1)], [zI r2], M2, cl2) _
            exact zT.ret (v := some (zI r2)) rfl (by first | exact trivial | decide) h
          replace h := h.2
          by_cases c2 : a2 = 2
          · replace h := h.1 c2
            rw [show xm_tsw 54 45 0 2 #[26, 31, 40] (zi a2) = 94 from (by rw [c2]; rfl)]
            refine zT.it 2 (t := (98, [some (zR 0 0), some (zI a1), some (zI a2), some (zR 10 r1)], [zI (M1.1 10 r1 1)], M1, cl1)) rfl ?_
            exact zT.ret (v := some (zI (M1.1 10 r1 1))) rfl (by first | exact trivial | decide) h
          replace h := h.2
          replace h := h c0 c1 c2
          rw [show xm_tsw 54 45 0 2 #[26, 31, 40] (zi a2) = 99 from z_tsw_x hx (by omega) rfl]
          refine zT.it 2 (t := (103, [some (zR 0 0), some (zI a1), some (zI a2), some (zR 10 r1)], [zI (M1.1 10 r1 2)], M1, cl1)) rfl ?_
          exact zT.ret (v := some (zI (M1.1 10 r1 2))) rfl (by first | exact trivial | decide) h
        · replace h := h.2.2 c
          exact zT.thr (x := 2) rfl h
    · replace h := h.2.2 c
      exact zT.thr (x := 1) rfl h
theorem g114_0 {a2 : Int} {a3 : Int} {M : zM} {Q : zQ} (h : zX 113 [zR 0 0, zI a2, zI a3] M (fun v M1 c => ∃ r1 : Int, v = some (zI r1) ∧ ∀ cl1 : Bool, (zr r1) ∧ (Q (.inl (some (zI 0))) (z_wl M1 31 0 0 r1) false 0)) (fun x M1 => ∃ a, xm_hd 114 5 x = some a ∧ Q (.inl (some (zI a.toInt))) M1 true 1)) : zT 114 (0, [some (zR 0 0), some (zI a2), some (zI a3), some (zR 31 0), none], [], M, true) Q := by
  refine zT.it 5 (t := (5, [some (zR 0 0), some (zI a2), some (zI a3), some (zR 31 0), none], [zI a3, zI a2, zR 0 0, zI 0, zR 31 0], M, true)) rfl ?_
  refine zT.callh (m := 113) (as := [zR 0 0, zI a2, zI a3]) (M := M) (L := [some (zR 0 0), some (zI a2), some (zI a3), some (zR 31 0), none]) (st := [zI 0, zR 31 0]) (pn := 8) (cl := true) rfl ?_
  refine zX.mono h (fun v M1 c h => ?_) (fun _ _ h => h)
  obtain ⟨r1, e1, h⟩ := h; subst e1; replace h := h (true && c)
  generalize (true && c) = cl1 at h ⊢
  show zT 114 (8, [some (zR 0 0), some (zI a2), some (zI a3), some (zR 31 0), none], [zI r1, zI 0, zR 31 0], M1, cl1) _
  refine zT.chk (p := zr r1) (t := (9, [some (zR 0 0), some (zI a2), some (zI a3), some (zR 31 0), none], [zJ r1, zI 0, zR 31 0], M1, cl1)) rfl h.1 ?_
  replace h := h.2
  refine zT.chk (t := (10, [some (zR 0 0), some (zI a2), some (zI a3), some (zR 31 0), none], [], (z_wl M1 31 0 0 r1), false)) rfl (by first | decide | (dsimp only; decide)) ?_
  refine zT.it 2 (t := (22, [some (zR 0 0), some (zI a2), some (zI a3), some (zR 31 0), none], [zI 0], (z_wl M1 31 0 0 r1), false)) rfl ?_
  exact zT.ret (v := some (zI 0)) rfl (by first | exact trivial | decide) h
theorem g115_0 {a1 : Int} {M : zM} {Q : zQ} (h : (zr (M.1 18 0 19)) ∧ (((M.1 18 0 19) = 0 → zF 90 [zR 18 0, zI a1, zI 0, zJ 0] M (fun v M1 => ∃ r1 : Int, v = some (zJ r1) ∧ ∀ cl1 : Bool, Q (.inl (some (zJ r1))) M1 cl1 0)) ∧ (¬ ((M.1 18 0 19) = 0) → (zr a1) ∧ ((¬ a1 = 0 → zF 90 [zR 18 0, zI a1, zI 1, zJ (M.2.1 18 0 21)] M (fun v M2 => ∃ r2 : Int, v = some (zJ r2) ∧ ∀ cl2 : Bool, Q (.inl (some (zJ r2))) M2 cl2 0)) ∧ (a1 = 0 → Q (.inl (some (zJ (M.2.1 18 0 20)))) M true 0))))) : zT 115 (0, [some (zR 18 0), some (zI a1)], [], M, true) Q := by
  refine zT.it 2 (t := (4, [some (zR 18 0), some (zI a1)], [zI (M.1 18 0 19)], M, true)) rfl ?_
  refine zT.br (g := zr (M.1 18 0 19)) (p := (M.1 18 0 19) = 0) (t := (31, [some (zR 18 0), some (zI a1)], [], M, true)) (u := (7, [some (zR 18 0), some (zI a1)], [], M, true)) rfl h.1 (fun c => ?_) (fun c => ?_)
  · replace h := h.2.1 c
    refine zT.it 4 (t := (35, [some (zR 18 0), some (zI a1)], [zJ 0, zI 0, zI a1, zR 18 0], M, true)) rfl ?_
    refine zT.call (m := 90) (as := [zR 18 0, zI a1, zI 0, zJ 0]) (M := M) (L := [some (zR 18 0), some (zI a1)]) (st := []) (pn := 38) (cl := true) rfl ?_
    refine zF.mono h (fun v M1 h cl1 => ?_)
    obtain ⟨r1, e1, h⟩ := h; subst e1; replace h := h cl1
    show zT 115 (38, [some (zR 18 0), some (zI a1)], [zJ r1], M1, cl1) _
    exact zT.ret (v := some (zJ r1)) rfl trivial h
  · replace h := h.2.2 c
    refine zT.it 1 (t := (8, [some (zR 18 0), some (zI a1)], [zI a1], M, true)) rfl ?_
    refine zT.br (g := zr a1) (p := ¬ a1 = 0) (t := (18, [some (zR 18 0), some (zI a1)], [], M, true)) (u := (11, [some (zR 18 0), some (zI a1)], [], M, true)) rfl h.1 (fun c => ?_) (fun c => ?_)
    · replace h := h.2.1 c
      refine zT.it 5 (t := (25, [some (zR 18 0), some (zI a1)], [zJ (M.2.1 18 0 21), zI 1, zI a1, zR 18 0], M, true)) rfl ?_
      refine zT.call (m := 90) (as := [zR 18 0, zI a1, zI 1, zJ (M.2.1 18 0 21)]) (M := M) (L := [some (zR 18 0), some (zI a1)]) (st := []) (pn := 28) (cl := true) rfl ?_
      refine zF.mono h (fun v M2 h cl2 => ?_)
      obtain ⟨r2, e2, h⟩ := h; subst e2; replace h := h cl2
      show zT 115 (28, [some (zR 18 0), some (zI a1)], [zJ r2], M2, cl2) _
      refine zT.it 1 (t := (38, [some (zR 18 0), some (zI a1)], [zJ r2], M2, cl2)) rfl ?_
      exact zT.ret (v := some (zJ r2)) rfl trivial h
    · replace h := h.2.2 (Decidable.not_not.1 c)
      refine zT.it 3 (t := (38, [some (zR 18 0), some (zI a1)], [zJ (M.2.1 18 0 20)], M, true)) rfl ?_
      exact zT.ret (v := some (zJ (M.2.1 18 0 20))) rfl trivial h
theorem g116_0 {a1 : Int} {a2 : Int} {M : zM} {Q : zQ} (h : (zr a2) ∧ ((a2 < 0 → Q (.inl (some (zI 0))) (z_w M 18 0 1 1) false 0) ∧ (¬ (a2 < 0) → (zr a2 ∧ zr 3) ∧ ((a2 ≤ 3 → (zr a1) ∧ ((a1 < 0 → Q (.inl (some (zI 0))) (z_w M 18 0 1 2) false 0) ∧ (¬ (a1 < 0) → (zr a1 ∧ zr (M.1 18 0 15)) ∧ ((a1 < (M.1 18 0 15) → (zr a2) ∧ ((¬ a2 = 0 → (zr a2 ∧ zr 1) ∧ ((¬ a2 = 1 → (zr a2 ∧ zr 2) ∧ ((¬ a2 = 2 → zF 87 [zR 18 0, zI a1] (z_w M 18 0 1 0) (fun v M1 => ∃ r1 : Int, v = some (zJ r1) ∧ ∀ cl1 : Bool, Q (.inl (some (zI r1))) M1 cl1 0)) ∧ (a2 = 2 → (z_wi a1 9) ∧ ((zr (M.1 27 0 a1.toNat)) ∧ ((¬ (M.1 27 0 a1.toNat) = 0 → zF 89 [zR 18 0, zI a1] (z_w M 18 0 1 0) (fun v M2 => ∃ r2 : Int, v = some (zI r2) ∧ ∀ cl2 : Bool, Q (.inl (some (zI r2))) M2 cl2 0)) ∧ ((M.1 27 0 a1.toNat) = 0 → (z_wi a1 9) ∧ (Q (.inl (some (zI (M.1 28 0 a1.toNat)))) (z_w M 18 0 1 0) false 0))))))) ∧ (a2 = 1 → (zr (M.1 18 0 19)) ∧ (((M.1 18 0 19) = 0 → zF 115 [zR 18 0, zI (a1 + 1)] (z_w M 18 0 1 0) (fun v M3 => ∃ r3 : Int, v = some (zJ r3) ∧ ∀ cl3 : Bool, Q (.inl (some (zI r3))) M3 cl3 0)) ∧ (¬ ((M.1 18 0 19) = 0) → (zr a1) ∧ ((¬ a1 = 0 → zF 115 [zR 18 0, zI (a1 + 1)] (z_w M 18 0 1 0) (fun v M4 => ∃ r4 : Int, v = some (zJ r4) ∧ ∀ cl4 : Bool, Q (.inl (some (zI r4))) M4 cl4 0)) ∧ (a1 = 0 → Q (.inl (some (zI (M.2.1 18 0 21)))) (z_w M 18 0 1 0) false 0))))))) ∧ (a2 = 0 → zF 115 [zR 18 0, zI a1] (z_w M 18 0 1 0) (fun v M5 => ∃ r5 : Int, v = some (zJ r5) ∧ ∀ cl5 : Bool, Q (.inl (some (zI r5))) M5 cl5 0)))) ∧ (¬ (a1 < (M.1 18 0 15)) → Q (.inl (some (zI 0))) (z_w M 18 0 1 2) false 0))))) ∧ (¬ (a2 ≤ 3) → Q (.inl (some (zI 0))) (z_w M 18 0 1 1) false 0))))) : zT 116 (0, [some (zR 18 0), some (zI a1), some (zI a2)], [], M, true) Q := by
  refine zT.it 2 (t := (2, [some (zR 18 0), some (zI a1), some (zI a2)], [zI a2, zR 18 0], M, true)) rfl ?_
  refine zT.br (g := zr a2) (p := a2 < 0) (t := (10, [some (zR 18 0), some (zI a1), some (zI a2)], [zR 18 0], M, true)) (u := (5, [some (zR 18 0), some (zI a1), some (zI a2)], [zR 18 0], M, true)) rfl h.1 (fun c => ?_) (fun c => ?_)
  · replace h := h.2.1 c
    refine zT.it 5 (t := (38, [some (zR 18 0), some (zI a1), some (zI a2)], [zI 1], (z_w M 18 0 1 1), false)) rfl ?_
    refine zT.br (g := zr 1) (p := 1 ≤ 0) (t := (43, [some (zR 18 0), some (zI a1), some (zI a2)], [], (z_w M 18 0 1 1), false)) (u := (41, [some (zR 18 0), some (zI a1), some (zI a2)], [], (z_w M 18 0 1 1), false)) rfl (by decide) (fun c => absurd c (by decide)) (fun c => ?_)
    refine zT.it 1 (t := (42, [some (zR 18 0), some (zI a1), some (zI a2)], [zI 0], (z_w M 18 0 1 1), false)) rfl ?_
    exact zT.ret (v := some (zI 0)) rfl (by first | exact trivial | decide) h
  · replace h := h.2.2 c
    refine zT.it 2 (t := (7, [some (zR 18 0), some (zI a1), some (zI a2)], [zI 3, zI a2, zR 18 0], M, true)) rfl ?_
    refine zT.br (g := zr a2 ∧ zr 3) (p := a2 ≤ 3) (t := (14, [some (zR 18 0), some (zI a1), some (zI a2)], [zR 18 0], M, true)) (u := (10, [some (zR 18 0), some (zI a1), some (zI a2)], [zR 18 0], M, true)) rfl h.1 (fun c => ?_) (fun c => ?_)
    · replace h := h.2.1 c
      refine zT.it 1 (t := (15, [some (zR 18 0), some (zI a1), some (zI a2)], [zI a1, zR 18 0], M, true)) rfl ?_
      refine zT.br (g := zr a1) (p := a1 < 0) (t := (26, [some (zR 18 0), some (zI a1), some (zI a2)], [zR 18 0], M, true)) (u := (18, [some (zR 18 0), some (zI a1), some (zI a2)], [zR 18 0], M, true)) rfl h.1 (fun c => ?_) (fun c => ?_)
      · replace h := h.2.1 c
        refine zT.it 5 (t := (38, [some (zR 18 0), some (zI a1), some (zI a2)], [zI 2], (z_w M 18 0 1 2), false)) rfl ?_
        refine zT.br (g := zr 2) (p := 2 ≤ 0) (t := (43, [some (zR 18 0), some (zI a1), some (zI a2)], [], (z_w M 18 0 1 2), false)) (u := (41, [some (zR 18 0), some (zI a1), some (zI a2)], [], (z_w M 18 0 1 2), false)) rfl (by decide) (fun c => absurd c (by decide)) (fun c => ?_)
        refine zT.it 1 (t := (42, [some (zR 18 0), some (zI a1), some (zI a2)], [zI 0], (z_w M 18 0 1 2), false)) rfl ?_
        exact zT.ret (v := some (zI 0)) rfl (by first | exact trivial | decide) h
      · replace h := h.2.2 c
        refine zT.it 3 (t := (23, [some (zR 18 0), some (zI a1), some (zI a2)], [zI (M.1 18 0 15), zI a1, zR 18 0], M, true)) rfl ?_
        refine zT.br (g := zr a1 ∧ zr (M.1 18 0 15)) (p := a1 < (M.1 18 0 15)) (t := (30, [some (zR 18 0), some (zI a1), some (zI a2)], [zR 18 0], M, true)) (u := (26, [some (zR 18 0), some (zI a1), some (zI a2)], [zR 18 0], M, true)) rfl h.1 (fun c => ?_) (fun c => ?_)
        · replace h := h.2.1 c
          refine zT.it 4 (t := (38, [some (zR 18 0), some (zI a1), some (zI a2)], [zI 0], (z_w M 18 0 1 0), false)) rfl ?_
          refine zT.br (g := zr 0) (p := 0 ≤ 0) (t := (43, [some (zR 18 0), some (zI a1), some (zI a2)], [], (z_w M 18 0 1 0), false)) (u := (41, [some (zR 18 0), some (zI a1), some (zI a2)], [], (z_w M 18 0 1 0), false)) rfl (by decide) (fun c => ?_) (fun c => absurd (by decide) c)
          refine zT.it 1 (t := (44, [some (zR 18 0), some (zI a1), some (zI a2)], [zI a2], (z_w M 18 0 1 0), false)) rfl ?_
          refine zT.br (g := zr a2) (p := ¬ a2 = 0) (t := (54, [some (zR 18 0), some (zI a1), some (zI a2)], [], (z_w M 18 0 1 0), false)) (u := (47, [some (zR 18 0), some (zI a1), some (zI a2)], [], (z_w M 18 0 1 0), false)) rfl h.1 (fun c => ?_) (fun c => ?_)
          · replace h := h.2.1 c
            refine zT.it 2 (t := (56, [some (zR 18 0), some (zI a1), some (zI a2)], [zI 1, zI a2], (z_w M 18 0 1 0), false)) rfl ?_
            refine zT.br (g := zr a2 ∧ zr 1) (p := ¬ a2 = 1) (t := (86, [some (zR 18 0), some (zI a1), some (zI a2)], [], (z_w M 18 0 1 0), false)) (u := (59, [some (zR 18 0), some (zI a1), some (zI a2)], [], (z_w M 18 0 1 0), false)) rfl h.1 (fun c => ?_) (fun c => ?_)
            · replace h := h.2.1 c
              refine zT.it 2 (t := (88, [some (zR 18 0), some (zI a1), some (zI a2)], [zI 2, zI a2], (z_w M 18 0 1 0), false)) rfl ?_
              refine zT.br (g := zr a2 ∧ zr 2) (p := ¬ a2 = 2) (t := (117, [some (zR 18 0), some (zI a1), some (zI a2)], [], (z_w M 18 0 1 0), false)) (u := (91, [some (zR 18 0), some (zI a1), some (zI a2)], [], (z_w M 18 0 1 0), false)) rfl h.1 (fun c => ?_) (fun c => ?_)
              · replace h := h.2.1 c
                refine zT.it 2 (t := (119, [some (zR 18 0), some (zI a1), some (zI a2)], [zI a1, zR 18 0], (z_w M 18 0 1 0), false)) rfl ?_
                refine zT.call (m := 87) (as := [zR 18 0, zI a1]) (M := (z_w M 18 0 1 0)) (L := [some (zR 18 0), some (zI a1), some (zI a2)]) (st := []) (pn := 122) (cl := false) rfl ?_
                refine zF.mono h (fun v M1 h cl1 => ?_)
                obtain ⟨r1, e1, h⟩ := h; subst e1; replace h := h cl1
                show zT 116 (122, [some (zR 18 0), some (zI a1), some (zI a2)], [zJ r1], M1, cl1) _
                refine zT.it 1 (t := (123, [some (zR 18 0), some (zI a1), some (zI a2)], [zI r1], M1, cl1)) rfl ?_
                exact zT.ret (v := some (zI r1)) rfl (by first | exact trivial | decide) h
              · replace h := h.2.2 (Decidable.not_not.1 c)
                refine zT.it 3 (t := (96, [some (zR 18 0), some (zI a1), some (zI a2)], [zI a1, zR 27 0], (z_w M 18 0 1 0), false)) rfl ?_
                refine zT.chk (p := z_wi a1 9) (t := (97, [some (zR 18 0), some (zI a1), some (zI a2)], [zI (M.1 27 0 a1.toNat)], (z_w M 18 0 1 0), false)) rfl h.1 ?_
                replace h := h.2
                refine zT.br (g := zr (M.1 27 0 a1.toNat)) (p := ¬ (M.1 27 0 a1.toNat) = 0) (t := (109, [some (zR 18 0), some (zI a1), some (zI a2)], [], (z_w M 18 0 1 0), false)) (u := (100, [some (zR 18 0), some (zI a1), some (zI a2)], [], (z_w M 18 0 1 0), false)) rfl h.1 (fun c => ?_) (fun c => ?_)
                · replace h := h.2.1 c
                  refine zT.it 2 (t := (111, [some (zR 18 0), some (zI a1), some (zI a2)], [zI a1, zR 18 0], (z_w M 18 0 1 0), false)) rfl ?_
                  refine zT.call (m := 89) (as := [zR 18 0, zI a1]) (M := (z_w M 18 0 1 0)) (L := [some (zR 18 0), some (zI a1), some (zI a2)]) (st := []) (pn := 114) (cl := false) rfl ?_
                  refine zF.mono h (fun v M2 h cl2 => ?_)
                  obtain ⟨r2, e2, h⟩ := h; subst e2; replace h := h cl2
                  show zT 116 (114, [some (zR 18 0), some (zI a1), some (zI a2)], [zI r2], M2, cl2) _
                  refine zT.it 1 (t := (123, [some (zR 18 0), some (zI a1), some (zI a2)], [zI r2], M2, cl2)) rfl ?_
                  exact zT.ret (v := some (zI r2)) rfl (by first | exact trivial | decide) h
                · replace h := h.2.2 (Decidable.not_not.1 c)
                  refine zT.it 3 (t := (105, [some (zR 18 0), some (zI a1), some (zI a2)], [zI a1, zR 28 0], (z_w M 18 0 1 0), false)) rfl ?_
                  refine zT.chk (p := z_wi a1 9) (t := (106, [some (zR 18 0), some (zI a1), some (zI a2)], [zI (M.1 28 0 a1.toNat)], (z_w M 18 0 1 0), false)) rfl h.1 ?_
                  replace h := h.2
                  refine zT.it 1 (t := (123, [some (zR 18 0), some (zI a1), some (zI a2)], [zI (M.1 28 0 a1.toNat)], (z_w M 18 0 1 0), false)) rfl ?_
                  exact zT.ret (v := some (zI (M.1 28 0 a1.toNat))) rfl (by first | exact trivial | decide) h
            · replace h := h.2.2 (Decidable.not_not.1 c)
              refine zT.it 2 (t := (63, [some (zR 18 0), some (zI a1), some (zI a2)], [zI (M.1 18 0 19)], (z_w M 18 0 1 0), false)) rfl ?_
              refine zT.br (g := zr (M.1 18 0 19)) (p := (M.1 18 0 19) = 0) (t := (77, [some (zR 18 0), some (zI a1), some (zI a2)], [], (z_w M 18 0 1 0), false)) (u := (66, [some (zR 18 0), some (zI a1), some (zI a2)], [], (z_w M 18 0 1 0), false)) rfl h.1 (fun c => ?_) (fun c => ?_)
              · replace h := h.2.1 c
                refine zT.it 4 (t := (81, [some (zR 18 0), some (zI a1), some (zI a2)], [zI (a1 + 1), zR 18 0], (z_w M 18 0 1 0), false)) rfl ?_
                refine zT.call (m := 115) (as := [zR 18 0, zI (a1 + 1)]) (M := (z_w M 18 0 1 0)) (L := [some (zR 18 0), some (zI a1), some (zI a2)]) (st := []) (pn := 84) (cl := false) rfl ?_
                refine zF.mono h (fun v M3 h cl3 => ?_)
                obtain ⟨r3, e3, h⟩ := h; subst e3; replace h := h cl3
                show zT 116 (84, [some (zR 18 0), some (zI a1), some (zI a2)], [zJ r3], M3, cl3) _
                refine zT.it 1 (t := (85, [some (zR 18 0), some (zI a1), some (zI a2)], [zI r3], M3, cl3)) rfl ?_
                exact zT.ret (v := some (zI r3)) rfl (by first | exact trivial | decide) h
              · replace h := h.2.2 c
                refine zT.it 1 (t := (67, [some (zR 18 0), some (zI a1), some (zI a2)], [zI a1], (z_w M 18 0 1 0), false)) rfl ?_
                refine zT.br (g := zr a1) (p := ¬ a1 = 0) (t := (77, [some (zR 18 0), some (zI a1), some (zI a2)], [], (z_w M 18 0 1 0), false)) (u := (70, [some (zR 18 0), some (zI a1), some (zI a2)], [], (z_w M 18 0 1 0), false)) rfl h.1 (fun c => ?_) (fun c => ?_)
                · replace h := h.2.1 c
                  refine zT.it 4 (t := (81, [some (zR 18 0), some (zI a1), some (zI a2)], [zI (a1 + 1), zR 18 0], (z_w M 18 0 1 0), false)) rfl ?_
                  refine zT.call (m := 115) (as := [zR 18 0, zI (a1 + 1)]) (M := (z_w M 18 0 1 0)) (L := [some (zR 18 0), some (zI a1), some (zI a2)]) (st := []) (pn := 84) (cl := false) rfl ?_
                  refine zF.mono h (fun v M4 h cl4 => ?_)
                  obtain ⟨r4, e4, h⟩ := h; subst e4; replace h := h cl4
                  show zT 116 (84, [some (zR 18 0), some (zI a1), some (zI a2)], [zJ r4], M4, cl4) _
                  refine zT.it 1 (t := (85, [some (zR 18 0), some (zI a1), some (zI a2)], [zI r4], M4, cl4)) rfl ?_
                  exact zT.ret (v := some (zI r4)) rfl (by first | exact trivial | decide) h
                · replace h := h.2.2 (Decidable.not_not.1 c)
                  refine zT.it 4 (t := (85, [some (zR 18 0), some (zI a1), some (zI a2)], [zI (M.2.1 18 0 21)], (z_w M 18 0 1 0), false)) rfl ?_
                  exact zT.ret (v := some (zI (M.2.1 18 0 21))) rfl (by first | exact trivial | decide) h
          · replace h := h.2.2 (Decidable.not_not.1 c)
            refine zT.it 2 (t := (49, [some (zR 18 0), some (zI a1), some (zI a2)], [zI a1, zR 18 0], (z_w M 18 0 1 0), false)) rfl ?_
            refine zT.call (m := 115) (as := [zR 18 0, zI a1]) (M := (z_w M 18 0 1 0)) (L := [some (zR 18 0), some (zI a1), some (zI a2)]) (st := []) (pn := 52) (cl := false) rfl ?_
            refine zF.mono h (fun v M5 h cl5 => ?_)
            obtain ⟨r5, e5, h⟩ := h; subst e5; replace h := h cl5
            show zT 116 (52, [some (zR 18 0), some (zI a1), some (zI a2)], [zJ r5], M5, cl5) _
            refine zT.it 1 (t := (53, [some (zR 18 0), some (zI a1), some (zI a2)], [zI r5], M5, cl5)) rfl ?_
            exact zT.ret (v := some (zI r5)) rfl (by first | exact trivial | decide) h
        · replace h := h.2.2 c
          refine zT.it 5 (t := (38, [some (zR 18 0), some (zI a1), some (zI a2)], [zI 2], (z_w M 18 0 1 2), false)) rfl ?_
          refine zT.br (g := zr 2) (p := 2 ≤ 0) (t := (43, [some (zR 18 0), some (zI a1), some (zI a2)], [], (z_w M 18 0 1 2), false)) (u := (41, [some (zR 18 0), some (zI a1), some (zI a2)], [], (z_w M 18 0 1 2), false)) rfl (by decide) (fun c => absurd c (by decide)) (fun c => ?_)
          refine zT.it 1 (t := (42, [some (zR 18 0), some (zI a1), some (zI a2)], [zI 0], (z_w M 18 0 1 2), false)) rfl ?_
          exact zT.ret (v := some (zI 0)) rfl (by first | exact trivial | decide) h
    · replace h := h.2.2 c
      refine zT.it 5 (t := (38, [some (zR 18 0), some (zI a1), some (zI a2)], [zI 1], (z_w M 18 0 1 1), false)) rfl ?_
      refine zT.br (g := zr 1) (p := 1 ≤ 0) (t := (43, [some (zR 18 0), some (zI a1), some (zI a2)], [], (z_w M 18 0 1 1), false)) (u := (41, [some (zR 18 0), some (zI a1), some (zI a2)], [], (z_w M 18 0 1 1), false)) rfl (by decide) (fun c => absurd c (by decide)) (fun c => ?_)
      refine zT.it 1 (t := (42, [some (zR 18 0), some (zI a1), some (zI a2)], [zI 0], (z_w M 18 0 1 1), false)) rfl ?_
      exact zT.ret (v := some (zI 0)) rfl (by first | exact trivial | decide) h
theorem g117_0 {M : zM} {Q : zQ} (h : ((M.1 8 0 4) = 0 ∨ (M.1 8 0 4) = 1) ∧ Q (.inl (some (zI (M.1 8 0 4)))) M true 0) : zT 117 (0, [some (zR 0 0)], [], M, true) Q := by
  refine zT.it 3 (t := (7, [some (zR 0 0)], [zI (M.1 8 0 4)], M, true)) rfl ?_
  exact zT.ret (p := (M.1 8 0 4) = 0 ∨ (M.1 8 0 4) = 1) (v := some (zI (M.1 8 0 4))) rfl h.1 h.2
theorem g118_0 {M : zM} {Q : zQ} (h : ((M.1 18 0 19) = 0 ∨ (M.1 18 0 19) = 1) ∧ Q (.inl (some (zI (M.1 18 0 19)))) (z_w M 18 0 1 0) false 0) : zT 118 (0, [some (zR 18 0)], [], M, true) Q := by
  refine zT.it 5 (t := (9, [some (zR 18 0)], [zI (M.1 18 0 19)], (z_w M 18 0 1 0), false)) rfl ?_
  exact zT.ret (p := (M.1 18 0 19) = 0 ∨ (M.1 18 0 19) = 1) (v := some (zI (M.1 18 0 19))) rfl h.1 h.2
theorem g119_0 {a1 : Int} {M : zM} {Q : zQ} (h : (zr (M.1 0 0 9)) ∧ ((¬ (M.1 0 0 9) = 0 → (zr a1 ∧ zr (M.1 0 0 11)) ∧ ((a1 = (M.1 0 0 11) → (a1 = 0 ∨ a1 = 1) ∧ (Q (.inl (some (zI 0))) (z_w M 0 0 11 a1) false 0)) ∧ (¬ (a1 = (M.1 0 0 11)) → (a1 = 0 ∨ a1 = 1) ∧ (Q (.inl (some (zI 1))) (z_w M 0 0 11 a1) false 0)))) ∧ ((M.1 0 0 9) = 0 → Q (.inr 0) M true 1))) : zT 119 (0, [some (zR 0 0), some (zI a1), none], [], M, true) Q := by
  refine zT.it 2 (t := (4, [some (zR 0 0), some (zI a1), none], [zI (M.1 0 0 9)], M, true)) rfl ?_
  refine zT.br (g := zr (M.1 0 0 9)) (p := ¬ (M.1 0 0 9) = 0) (t := (17, [some (zR 0 0), some (zI a1), none], [], M, true)) (u := (7, [some (zR 0 0), some (zI a1), none], [], M, true)) rfl h.1 (fun c => ?_) (fun c => ?_)
  · replace h := h.2.1 c
    refine zT.it 3 (t := (22, [some (zR 0 0), some (zI a1), none], [zI (M.1 0 0 11), zI a1], M, true)) rfl ?_
    refine zT.br (g := zr a1 ∧ zr (M.1 0 0 11)) (p := a1 = (M.1 0 0 11)) (t := (29, [some (zR 0 0), some (zI a1), none], [], M, true)) (u := (25, [some (zR 0 0), some (zI a1), none], [], M, true)) rfl h.1 (fun c => ?_) (fun c => ?_)
    · replace h := h.2.1 c
      refine zT.it 4 (t := (33, [some (zR 0 0), some (zI a1), some (zI 0)], [zI a1, zR 0 0], M, true)) rfl ?_
      refine zT.chk (p := a1 = 0 ∨ a1 = 1) (t := (36, [some (zR 0 0), some (zI a1), some (zI 0)], [], (z_w M 0 0 11 a1), false)) rfl h.1 ?_
      replace h := h.2
      refine zT.it 1 (t := (37, [some (zR 0 0), some (zI a1), some (zI 0)], [zI 0], (z_w M 0 0 11 a1), false)) rfl ?_
      exact zT.ret (v := some (zI 0)) rfl (by first | exact trivial | decide) h
    · replace h := h.2.2 c
      refine zT.it 5 (t := (33, [some (zR 0 0), some (zI a1), some (zI 1)], [zI a1, zR 0 0], M, true)) rfl ?_
      refine zT.chk (p := a1 = 0 ∨ a1 = 1) (t := (36, [some (zR 0 0), some (zI a1), some (zI 1)], [], (z_w M 0 0 11 a1), false)) rfl h.1 ?_
      replace h := h.2
      refine zT.it 1 (t := (37, [some (zR 0 0), some (zI a1), some (zI 1)], [zI 1], (z_w M 0 0 11 a1), false)) rfl ?_
      exact zT.ret (v := some (zI 1)) rfl (by first | exact trivial | decide) h
  · replace h := h.2.2 (Decidable.not_not.1 c)
    exact zT.thr (x := 0) rfl h
theorem g120_0 {a2 : Int} {M : zM} {Q : zQ} (h : zX 119 [zR 0 0, zI a2] M (fun v M1 c => ∃ r1 : Int, v = some (zI r1) ∧ ∀ cl1 : Bool, (zr r1) ∧ ((r1 = 0 → Q (.inl (some (zI 0))) (z_wl M1 31 0 0 0) false 0) ∧ (¬ (r1 = 0) → Q (.inl (some (zI 0))) (z_wl M1 31 0 0 1) false 0))) (fun x M1 => ∃ a, xm_hd 120 4 x = some a ∧ Q (.inl (some (zI a.toInt))) M1 true 1)) : zT 120 (0, [some (zR 0 0), some (zI a2), some (zR 31 0), none], [], M, true) Q := by
  refine zT.it 4 (t := (4, [some (zR 0 0), some (zI a2), some (zR 31 0), none], [zI a2, zR 0 0, zI 0, zR 31 0], M, true)) rfl ?_
  refine zT.callh (m := 119) (as := [zR 0 0, zI a2]) (M := M) (L := [some (zR 0 0), some (zI a2), some (zR 31 0), none]) (st := [zI 0, zR 31 0]) (pn := 7) (cl := true) rfl ?_
  refine zX.mono h (fun v M1 c h => ?_) (fun _ _ h => h)
  obtain ⟨r1, e1, h⟩ := h; subst e1; replace h := h (true && c)
  generalize (true && c) = cl1 at h ⊢
  show zT 120 (7, [some (zR 0 0), some (zI a2), some (zR 31 0), none], [zI r1, zI 0, zR 31 0], M1, cl1) _
  refine zT.br (g := zr r1) (p := r1 = 0) (t := (14, [some (zR 0 0), some (zI a2), some (zR 31 0), none], [zI 0, zR 31 0], M1, cl1)) (u := (10, [some (zR 0 0), some (zI a2), some (zR 31 0), none], [zI 0, zR 31 0], M1, cl1)) rfl h.1 (fun c => ?_) (fun c => ?_)
  · replace h := h.2.1 c
    refine zT.it 1 (t := (15, [some (zR 0 0), some (zI a2), some (zR 31 0), none], [zJ 0, zI 0, zR 31 0], M1, cl1)) rfl ?_
    refine zT.chk (t := (16, [some (zR 0 0), some (zI a2), some (zR 31 0), none], [], (z_wl M1 31 0 0 0), false)) rfl (by first | decide | (dsimp only; decide)) ?_
    refine zT.it 2 (t := (23, [some (zR 0 0), some (zI a2), some (zR 31 0), none], [zI 0], (z_wl M1 31 0 0 0), false)) rfl ?_
    exact zT.ret (v := some (zI 0)) rfl (by first | exact trivial | decide) h
  · replace h := h.2.2 c
    refine zT.it 2 (t := (15, [some (zR 0 0), some (zI a2), some (zR 31 0), none], [zJ 1, zI 0, zR 31 0], M1, cl1)) rfl ?_
    refine zT.chk (t := (16, [some (zR 0 0), some (zI a2), some (zR 31 0), none], [], (z_wl M1 31 0 0 1), false)) rfl (by first | decide | (dsimp only; decide)) ?_
    refine zT.it 2 (t := (23, [some (zR 0 0), some (zI a2), some (zR 31 0), none], [zI 0], (z_wl M1 31 0 0 1), false)) rfl ?_
    exact zT.ret (v := some (zI 0)) rfl (by first | exact trivial | decide) h
theorem g121_0 {a1 : Int} {M : zM} {Q : zQ} (h : (zr (M.1 18 0 26)) ∧ (((M.1 18 0 26) = 0 → (a1 = 0 ∨ a1 = 1) ∧ ((zr (M.1 18 0 25) ∧ zr a1) ∧ (((M.1 18 0 25) = a1 → Q (.inl (some (zI 0))) (z_w (z_w M 18 0 1 0) 18 0 25 a1) false 0) ∧ (¬ ((M.1 18 0 25) = a1) → Q (.inl (some (zI 1))) (z_w (z_w M 18 0 1 0) 18 0 25 a1) false 0)))) ∧ (¬ ((M.1 18 0 26) = 0) → Q (.inl (some (zI 0))) (z_w M 18 0 1 1) false 0))) : zT 121 (0, [some (zR 18 0), some (zI a1), none], [], M, true) Q := by
  refine zT.it 3 (t := (5, [some (zR 18 0), some (zI a1), none], [zI (M.1 18 0 26), zR 18 0], M, true)) rfl ?_
  refine zT.br (g := zr (M.1 18 0 26)) (p := (M.1 18 0 26) = 0) (t := (12, [some (zR 18 0), some (zI a1), none], [zR 18 0], M, true)) (u := (8, [some (zR 18 0), some (zI a1), none], [zR 18 0], M, true)) rfl h.1 (fun c => ?_) (fun c => ?_)
  · replace h := h.2.1 c
    refine zT.it 4 (t := (20, [some (zR 18 0), some (zI a1), none], [zI 0], (z_w M 18 0 1 0), false)) rfl ?_
    refine zT.br (g := zr 0) (p := 0 ≤ 0) (t := (25, [some (zR 18 0), some (zI a1), none], [], (z_w M 18 0 1 0), false)) (u := (23, [some (zR 18 0), some (zI a1), none], [], (z_w M 18 0 1 0), false)) rfl (by decide) (fun c => ?_) (fun c => absurd (by decide) c)
    refine zT.it 5 (t := (32, [some (zR 18 0), some (zI a1), some (zI (M.1 18 0 25))], [zI a1, zR 18 0], (z_w M 18 0 1 0), false)) rfl ?_
    refine zT.chk (p := a1 = 0 ∨ a1 = 1) (t := (35, [some (zR 18 0), some (zI a1), some (zI (M.1 18 0 25))], [], (z_w (z_w M 18 0 1 0) 18 0 25 a1), false)) rfl h.1 ?_
    replace h := h.2
    refine zT.it 2 (t := (37, [some (zR 18 0), some (zI a1), some (zI (M.1 18 0 25))], [zI a1, zI (M.1 18 0 25)], (z_w (z_w M 18 0 1 0) 18 0 25 a1), false)) rfl ?_
    refine zT.br (g := zr (M.1 18 0 25) ∧ zr a1) (p := (M.1 18 0 25) = a1) (t := (44, [some (zR 18 0), some (zI a1), some (zI (M.1 18 0 25))], [], (z_w (z_w M 18 0 1 0) 18 0 25 a1), false)) (u := (40, [some (zR 18 0), some (zI a1), some (zI (M.1 18 0 25))], [], (z_w (z_w M 18 0 1 0) 18 0 25 a1), false)) rfl h.1 (fun c => ?_) (fun c => ?_)
    · replace h := h.2.1 c
      refine zT.it 1 (t := (45, [some (zR 18 0), some (zI a1), some (zI (M.1 18 0 25))], [zI 0], (z_w (z_w M 18 0 1 0) 18 0 25 a1), false)) rfl ?_
      exact zT.ret (v := some (zI 0)) rfl (by first | exact trivial | decide) h
    · replace h := h.2.2 c
      refine zT.it 2 (t := (45, [some (zR 18 0), some (zI a1), some (zI (M.1 18 0 25))], [zI 1], (z_w (z_w M 18 0 1 0) 18 0 25 a1), false)) rfl ?_
      exact zT.ret (v := some (zI 1)) rfl (by first | exact trivial | decide) h
  · replace h := h.2.2 c
    refine zT.it 5 (t := (20, [some (zR 18 0), some (zI a1), none], [zI 1], (z_w M 18 0 1 1), false)) rfl ?_
    refine zT.br (g := zr 1) (p := 1 ≤ 0) (t := (25, [some (zR 18 0), some (zI a1), none], [], (z_w M 18 0 1 1), false)) (u := (23, [some (zR 18 0), some (zI a1), none], [], (z_w M 18 0 1 1), false)) rfl (by decide) (fun c => absurd c (by decide)) (fun c => ?_)
    refine zT.it 1 (t := (24, [some (zR 18 0), some (zI a1), none], [zI 0], (z_w M 18 0 1 1), false)) rfl ?_
    exact zT.ret (v := some (zI 0)) rfl (by first | exact trivial | decide) h
theorem g122_0 {M : zM} {Q : zQ} (h : zX 7 [zR 0 0] M (fun v M1 c => c = true ∧ v = none ∧ zF 80 [zR 8 0] M1 (fun v M2 => ∃ r2 : Int, v = some (zI r2) ∧ ∀ cl2 : Bool, zF 40 [zR 14 0, zR 15 0] M2 (fun v M3 => v = none ∧ ∀ cl3 : Bool, Q (.inl (some (zI r2))) M3 cl3 0))) (fun x M1 => Q (.inr x) M1 true 1)) : zT 122 (0, [some (zR 0 0), none], [], M, true) Q := by
  refine zT.it 1 (t := (1, [some (zR 0 0), none], [zR 0 0], M, true)) rfl ?_
  refine zT.callx (m := 7) (as := [zR 0 0]) (M := M) (L := [some (zR 0 0), none]) (st := []) (pn := 4) (cl := true) rfl rfl rfl ?_
  refine zX.mono h (fun v M1 c h => ?_) (fun _ _ h => ⟨rfl, h⟩)
  obtain ⟨hc, e1, h⟩ := h; subst hc; subst e1
  show zT 122 (4, [some (zR 0 0), none], [], M1, true) _
  refine zT.it 2 (t := (8, [some (zR 0 0), none], [zR 8 0], M1, true)) rfl ?_
  refine zT.call (m := 80) (as := [zR 8 0]) (M := M1) (L := [some (zR 0 0), none]) (st := []) (pn := 11) (cl := true) rfl ?_
  refine zF.mono h (fun v M2 h cl2 => ?_)
  obtain ⟨r2, e2, h⟩ := h; subst e2; replace h := h cl2
  show zT 122 (11, [some (zR 0 0), none], [zI r2], M2, cl2) _
  refine zT.it 5 (t := (20, [some (zR 0 0), some (zI r2)], [zR 15 0, zR 14 0], M2, cl2)) rfl ?_
  refine zT.call (m := 40) (as := [zR 14 0, zR 15 0]) (M := M2) (L := [some (zR 0 0), some (zI r2)]) (st := []) (pn := 23) (cl := cl2) rfl ?_
  refine zF.mono h (fun v M3 h cl3 => ?_)
  obtain ⟨e3, h⟩ := h; subst e3; replace h := h cl3
  show zT 122 (23, [some (zR 0 0), some (zI r2)], [], M3, cl3) _
  refine zT.it 1 (t := (24, [some (zR 0 0), some (zI r2)], [zI r2], M3, cl3)) rfl ?_
  exact zT.ret (v := some (zI r2)) rfl (by first | exact trivial | decide) h
theorem g123_0 {M : zM} {Q : zQ} (h : zX 122 [zR 0 0] M (fun v M1 c => ∃ r1 : Int, v = some (zI r1) ∧ ∀ cl1 : Bool, (zr r1) ∧ (Q (.inl (some (zI 0))) (z_wl M1 31 0 0 r1) false 0)) (fun x M1 => ∃ a, xm_hd 123 3 x = some a ∧ Q (.inl (some (zI a.toInt))) M1 true 1)) : zT 123 (0, [some (zR 0 0), some (zR 31 0), none], [], M, true) Q := by
  refine zT.it 3 (t := (3, [some (zR 0 0), some (zR 31 0), none], [zR 0 0, zI 0, zR 31 0], M, true)) rfl ?_
  refine zT.callh (m := 122) (as := [zR 0 0]) (M := M) (L := [some (zR 0 0), some (zR 31 0), none]) (st := [zI 0, zR 31 0]) (pn := 6) (cl := true) rfl ?_
  refine zX.mono h (fun v M1 c h => ?_) (fun _ _ h => h)
  obtain ⟨r1, e1, h⟩ := h; subst e1; replace h := h (true && c)
  generalize (true && c) = cl1 at h ⊢
  show zT 123 (6, [some (zR 0 0), some (zR 31 0), none], [zI r1, zI 0, zR 31 0], M1, cl1) _
  refine zT.chk (p := zr r1) (t := (7, [some (zR 0 0), some (zR 31 0), none], [zJ r1, zI 0, zR 31 0], M1, cl1)) rfl h.1 ?_
  replace h := h.2
  refine zT.chk (t := (8, [some (zR 0 0), some (zR 31 0), none], [], (z_wl M1 31 0 0 r1), false)) rfl (by first | decide | (dsimp only; decide)) ?_
  refine zT.it 2 (t := (15, [some (zR 0 0), some (zR 31 0), none], [zI 0], (z_wl M1 31 0 0 r1), false)) rfl ?_
  exact zT.ret (v := some (zI 0)) rfl (by first | exact trivial | decide) h
theorem g124_0 {M : zM} {Q : zQ} (h : zF 50 [zR 18 0] M (fun v M1 => ∃ r1 : Int, v = some (zI r1) ∧ ∀ cl1 : Bool, (zr r1) ∧ ((¬ r1 = 0 → Q (.inl (some (zI (M1.1 18 0 15)))) (z_w (z_w (z_w (z_w (z_w M1 18 0 15 0) 18 0 19 0) 24 0 0 (M1.1 23 0 0)) 24 0 1 (M1.1 23 0 1)) 24 0 2 (M1.1 23 0 2)) false 0) ∧ (r1 = 0 → Q (.inl (some (zI 0))) M1 cl1 0)))) : zT 124 (0, [some (zR 18 0), none, none], [], M, true) Q := by
  refine zT.it 1 (t := (1, [some (zR 18 0), none, none], [zR 18 0], M, true)) rfl ?_
  refine zT.call (m := 50) (as := [zR 18 0]) (M := M) (L := [some (zR 18 0), none, none]) (st := []) (pn := 4) (cl := true) rfl ?_
  refine zF.mono h (fun v M1 h cl1 => ?_)
  obtain ⟨r1, e1, h⟩ := h; subst e1; replace h := h cl1
  show zT 124 (4, [some (zR 18 0), none, none], [zI r1], M1, cl1) _
  refine zT.br (g := zr r1) (p := ¬ r1 = 0) (t := (9, [some (zR 18 0), none, none], [], M1, cl1)) (u := (7, [some (zR 18 0), none, none], [], M1, cl1)) rfl h.1 (fun c => ?_) (fun c => ?_)
  · replace h := h.2.1 c
    refine zT.it 8 (t := (21, [some (zR 18 0), some (zI (M1.1 18 0 15)), none], [zI 0, zR 18 0], (z_w M1 18 0 15 0), false)) rfl ?_
    refine zT.chk (t := (24, [some (zR 18 0), some (zI (M1.1 18 0 15)), none], [], (z_w (z_w M1 18 0 15 0) 18 0 19 0), false)) rfl (by first | decide | (dsimp only; decide)) ?_
    refine zT.it 4 (t := (28, [some (zR 18 0), some (zI (M1.1 18 0 15)), some (zI 0)], [zI 3, zI 0], (z_w (z_w M1 18 0 15 0) 18 0 19 0), false)) rfl ?_
    refine zT.br (g := zr 0 ∧ zr 3) (p := 3 ≤ 0) (t := (49, [some (zR 18 0), some (zI (M1.1 18 0 15)), some (zI 0)], [], (z_w (z_w M1 18 0 15 0) 18 0 19 0), false)) (u := (31, [some (zR 18 0), some (zI (M1.1 18 0 15)), some (zI 0)], [], (z_w (z_w M1 18 0 15 0) 18 0 19 0), false)) rfl (by decide) (fun c => absurd c (by decide)) (fun c => ?_)
    refine zT.it 6 (t := (41, [some (zR 18 0), some (zI (M1.1 18 0 15)), some (zI 0)], [zI 0, zR 23 0, zI 0, zR 24 0], (z_w (z_w M1 18 0 15 0) 18 0 19 0), false)) rfl ?_
    refine zT.chk (t := (42, [some (zR 18 0), some (zI (M1.1 18 0 15)), some (zI 0)], [zI (M1.1 23 0 0), zI 0, zR 24 0], (z_w (z_w M1 18 0 15 0) 18 0 19 0), false)) rfl (by first | decide | (dsimp only; decide)) ?_
    refine zT.chk (t := (43, [some (zR 18 0), some (zI (M1.1 18 0 15)), some (zI 0)], [], (z_w (z_w (z_w M1 18 0 15 0) 18 0 19 0) 24 0 0 (M1.1 23 0 0)), false)) rfl (by first | decide | (dsimp only; decide)) ?_
    refine zT.it 4 (t := (28, [some (zR 18 0), some (zI (M1.1 18 0 15)), some (zI 1)], [zI 3, zI 1], (z_w (z_w (z_w M1 18 0 15 0) 18 0 19 0) 24 0 0 (M1.1 23 0 0)), false)) rfl ?_
    refine zT.br (g := zr 1 ∧ zr 3) (p := 3 ≤ 1) (t := (49, [some (zR 18 0), some (zI (M1.1 18 0 15)), some (zI 1)], [], (z_w (z_w (z_w M1 18 0 15 0) 18 0 19 0) 24 0 0 (M1.1 23 0 0)), false)) (u := (31, [some (zR 18 0), some (zI (M1.1 18 0 15)), some (zI 1)], [], (z_w (z_w (z_w M1 18 0 15 0) 18 0 19 0) 24 0 0 (M1.1 23 0 0)), false)) rfl (by decide) (fun c => absurd c (by decide)) (fun c => ?_)
    refine zT.it 6 (t := (41, [some (zR 18 0), some (zI (M1.1 18 0 15)), some (zI 1)], [zI 1, zR 23 0, zI 1, zR 24 0], (z_w (z_w (z_w M1 18 0 15 0) 18 0 19 0) 24 0 0 (M1.1 23 0 0)), false)) rfl ?_
    refine zT.chk (t := (42, [some (zR 18 0), some (zI (M1.1 18 0 15)), some (zI 1)], [zI (M1.1 23 0 1), zI 1, zR 24 0], (z_w (z_w (z_w M1 18 0 15 0) 18 0 19 0) 24 0 0 (M1.1 23 0 0)), false)) rfl (by first | decide | (dsimp only; decide)) ?_
    refine zT.chk (t := (43, [some (zR 18 0), some (zI (M1.1 18 0 15)), some (zI 1)], [], (z_w (z_w (z_w (z_w M1 18 0 15 0) 18 0 19 0) 24 0 0 (M1.1 23 0 0)) 24 0 1 (M1.1 23 0 1)), false)) rfl (by first | decide | (dsimp only; decide)) ?_
    refine zT.it 4 (t := (28, [some (zR 18 0), some (zI (M1.1 18 0 15)), some (zI 2)], [zI 3, zI 2], (z_w (z_w (z_w (z_w M1 18 0 15 0) 18 0 19 0) 24 0 0 (M1.1 23 0 0)) 24 0 1 (M1.1 23 0 1)), false)) rfl ?_
    refine zT.br (g := zr 2 ∧ zr 3) (p := 3 ≤ 2) (t := (49, [some (zR 18 0), some (zI (M1.1 18 0 15)), some (zI 2)], [], (z_w (z_w (z_w (z_w M1 18 0 15 0) 18 0 19 0) 24 0 0 (M1.1 23 0 0)) 24 0 1 (M1.1 23 0 1)), false)) (u := (31, [some (zR 18 0), some (zI (M1.1 18 0 15)), some (zI 2)], [], (z_w (z_w (z_w (z_w M1 18 0 15 0) 18 0 19 0) 24 0 0 (M1.1 23 0 0)) 24 0 1 (M1.1 23 0 1)), false)) rfl (by decide) (fun c => absurd c (by decide)) (fun c => ?_)
    refine zT.it 6 (t := (41, [some (zR 18 0), some (zI (M1.1 18 0 15)), some (zI 2)], [zI 2, zR 23 0, zI 2, zR 24 0], (z_w (z_w (z_w (z_w M1 18 0 15 0) 18 0 19 0) 24 0 0 (M1.1 23 0 0)) 24 0 1 (M1.1 23 0 1)), false)) rfl ?_
    refine zT.chk (t := (42, [some (zR 18 0), some (zI (M1.1 18 0 15)), some (zI 2)], [zI (M1.1 23 0 2), zI 2, zR 24 0], (z_w (z_w (z_w (z_w M1 18 0 15 0) 18 0 19 0) 24 0 0 (M1.1 23 0 0)) 24 0 1 (M1.1 23 0 1)), false)) rfl (by first | decide | (dsimp only; decide)) ?_
    refine zT.chk (t := (43, [some (zR 18 0), some (zI (M1.1 18 0 15)), some (zI 2)], [], (z_w (z_w (z_w (z_w (z_w M1 18 0 15 0) 18 0 19 0) 24 0 0 (M1.1 23 0 0)) 24 0 1 (M1.1 23 0 1)) 24 0 2 (M1.1 23 0 2)), false)) rfl (by first | decide | (dsimp only; decide)) ?_
    refine zT.it 4 (t := (28, [some (zR 18 0), some (zI (M1.1 18 0 15)), some (zI 3)], [zI 3, zI 3], (z_w (z_w (z_w (z_w (z_w M1 18 0 15 0) 18 0 19 0) 24 0 0 (M1.1 23 0 0)) 24 0 1 (M1.1 23 0 1)) 24 0 2 (M1.1 23 0 2)), false)) rfl ?_
    refine zT.br (g := zr 3 ∧ zr 3) (p := 3 ≤ 3) (t := (49, [some (zR 18 0), some (zI (M1.1 18 0 15)), some (zI 3)], [], (z_w (z_w (z_w (z_w (z_w M1 18 0 15 0) 18 0 19 0) 24 0 0 (M1.1 23 0 0)) 24 0 1 (M1.1 23 0 1)) 24 0 2 (M1.1 23 0 2)), false)) (u := (31, [some (zR 18 0), some (zI (M1.1 18 0 15)), some (zI 3)], [], (z_w (z_w (z_w (z_w (z_w M1 18 0 15 0) 18 0 19 0) 24 0 0 (M1.1 23 0 0)) 24 0 1 (M1.1 23 0 1)) 24 0 2 (M1.1 23 0 2)), false)) rfl (by decide) (fun c => ?_) (fun c => absurd (by decide) c)
    refine zT.it 1 (t := (50, [some (zR 18 0), some (zI (M1.1 18 0 15)), some (zI 3)], [zI (M1.1 18 0 15)], (z_w (z_w (z_w (z_w (z_w M1 18 0 15 0) 18 0 19 0) 24 0 0 (M1.1 23 0 0)) 24 0 1 (M1.1 23 0 1)) 24 0 2 (M1.1 23 0 2)), false)) rfl ?_
    exact zT.ret (v := some (zI (M1.1 18 0 15))) rfl (by first | exact trivial | decide) h
  · replace h := h.2.2 (Decidable.not_not.1 c)
    refine zT.it 1 (t := (8, [some (zR 18 0), none, none], [zI 0], M1, cl1)) rfl ?_
    exact zT.ret (v := some (zI 0)) rfl (by first | exact trivial | decide) h
theorem g125_0 {a1 : Int} {M : zM} {Q : zQ} (h : (zr a1 ∧ zr (-1)) ∧ ((a1 < (-1) → Q (.inr 1) M true 1) ∧ (¬ (a1 < (-1)) → (zr a1 ∧ zr 5) ∧ ((a1 ≤ 5 → zX 7 [zR 0 0] M (fun v M1 c => c = true ∧ v = none ∧ Q (.inl none) (z_w M1 0 0 15 a1) false 0) (fun x M1 => Q (.inr x) M1 true 1)) ∧ (¬ (a1 ≤ 5) → Q (.inr 1) M true 1))))) : zT 125 (0, [some (zR 0 0), some (zI a1)], [], M, true) Q := by
  refine zT.it 2 (t := (2, [some (zR 0 0), some (zI a1)], [zI (-1), zI a1], M, true)) rfl ?_
  refine zT.br (g := zr a1 ∧ zr (-1)) (p := a1 < (-1)) (t := (10, [some (zR 0 0), some (zI a1)], [], M, true)) (u := (5, [some (zR 0 0), some (zI a1)], [], M, true)) rfl h.1 (fun c => ?_) (fun c => ?_)
  · replace h := h.2.1 c
    exact zT.thr (x := 1) rfl h
  · replace h := h.2.2 c
    refine zT.it 2 (t := (7, [some (zR 0 0), some (zI a1)], [zI 5, zI a1], M, true)) rfl ?_
    refine zT.br (g := zr a1 ∧ zr 5) (p := a1 ≤ 5) (t := (20, [some (zR 0 0), some (zI a1)], [], M, true)) (u := (10, [some (zR 0 0), some (zI a1)], [], M, true)) rfl h.1 (fun c => ?_) (fun c => ?_)
    · replace h := h.2.1 c
      refine zT.it 1 (t := (21, [some (zR 0 0), some (zI a1)], [zR 0 0], M, true)) rfl ?_
      refine zT.callx (m := 7) (as := [zR 0 0]) (M := M) (L := [some (zR 0 0), some (zI a1)]) (st := []) (pn := 24) (cl := true) rfl rfl rfl ?_
      refine zX.mono h (fun v M1 c h => ?_) (fun _ _ h => ⟨rfl, h⟩)
      obtain ⟨hc, e1, h⟩ := h; subst hc; subst e1
      show zT 125 (24, [some (zR 0 0), some (zI a1)], [], M1, true) _
      refine zT.it 3 (t := (29, [some (zR 0 0), some (zI a1)], [], (z_w M1 0 0 15 a1), false)) rfl ?_
      exact zT.ret (v := none) rfl trivial h
    · replace h := h.2.2 c
      exact zT.thr (x := 1) rfl h
theorem g126_0 {a2 : Int} {M : zM} {Q : zQ} (h : zX 125 [zR 0 0, zI a2] M (fun v M1 c => v = none ∧ ∀ cl1 : Bool, Q (.inl (some (zI 0))) M1 cl1 0) (fun x M1 => ∃ a, xm_hd 126 2 x = some a ∧ Q (.inl (some (zI a.toInt))) M1 true 1)) : zT 126 (0, [some (zR 0 0), some (zI a2), none], [], M, true) Q := by
  refine zT.it 2 (t := (2, [some (zR 0 0), some (zI a2), none], [zI a2, zR 0 0], M, true)) rfl ?_
  refine zT.callh (m := 125) (as := [zR 0 0, zI a2]) (M := M) (L := [some (zR 0 0), some (zI a2), none]) (st := []) (pn := 5) (cl := true) rfl ?_
  refine zX.mono h (fun v M1 c h => ?_) (fun _ _ h => h)
  obtain ⟨e1, h⟩ := h; subst e1; replace h := h (true && c)
  generalize (true && c) = cl1 at h ⊢
  show zT 126 (5, [some (zR 0 0), some (zI a2), none], [], M1, cl1) _
  refine zT.it 2 (t := (15, [some (zR 0 0), some (zI a2), none], [zI 0], M1, cl1)) rfl ?_
  exact zT.ret (v := some (zI 0)) rfl (by first | exact trivial | decide) h
theorem g127_0 {a1 : Int} {M : zM} {Q : zQ} (h : (zr a1 ∧ zr (-1)) ∧ ((a1 < (-1) → Q (.inl none) (z_w M 18 0 1 1) false 0) ∧ (¬ (a1 < (-1)) → (zr a1 ∧ zr 5) ∧ ((a1 ≤ 5 → (zr (M.1 18 0 26)) ∧ ((¬ (M.1 18 0 26) = 0 → Q (.inl none) (z_w M 18 0 1 2) false 0) ∧ ((M.1 18 0 26) = 0 → (zr (M.1 18 0 27)) ∧ (((M.1 18 0 27) = 0 → Q (.inl none) (z_w (z_w M 18 0 1 0) 18 0 28 a1) false 0) ∧ (¬ ((M.1 18 0 27) = 0) → Q (.inl none) (z_w M 18 0 1 2) false 0))))) ∧ (¬ (a1 ≤ 5) → Q (.inl none) (z_w M 18 0 1 1) false 0))))) : zT 127 (0, [some (zR 18 0), some (zI a1)], [], M, true) Q := by
  refine zT.it 3 (t := (3, [some (zR 18 0), some (zI a1)], [zI (-1), zI a1, zR 18 0], M, true)) rfl ?_
  refine zT.br (g := zr a1 ∧ zr (-1)) (p := a1 < (-1)) (t := (11, [some (zR 18 0), some (zI a1)], [zR 18 0], M, true)) (u := (6, [some (zR 18 0), some (zI a1)], [zR 18 0], M, true)) rfl h.1 (fun c => ?_) (fun c => ?_)
  · replace h := h.2.1 c
    refine zT.it 5 (t := (41, [some (zR 18 0), some (zI a1)], [zI 1], (z_w M 18 0 1 1), false)) rfl ?_
    refine zT.br (g := zr 1) (p := ¬ 1 = 0) (t := (49, [some (zR 18 0), some (zI a1)], [], (z_w M 18 0 1 1), false)) (u := (44, [some (zR 18 0), some (zI a1)], [], (z_w M 18 0 1 1), false)) rfl (by decide) (fun c => ?_) (fun c => absurd (by decide) c)
    exact zT.ret (v := none) rfl trivial h
  · replace h := h.2.2 c
    refine zT.it 2 (t := (8, [some (zR 18 0), some (zI a1)], [zI 5, zI a1, zR 18 0], M, true)) rfl ?_
    refine zT.br (g := zr a1 ∧ zr 5) (p := a1 ≤ 5) (t := (15, [some (zR 18 0), some (zI a1)], [zR 18 0], M, true)) (u := (11, [some (zR 18 0), some (zI a1)], [zR 18 0], M, true)) rfl h.1 (fun c => ?_) (fun c => ?_)
    · replace h := h.2.1 c
      refine zT.it 2 (t := (19, [some (zR 18 0), some (zI a1)], [zI (M.1 18 0 26), zR 18 0], M, true)) rfl ?_
      refine zT.br (g := zr (M.1 18 0 26)) (p := ¬ (M.1 18 0 26) = 0) (t := (29, [some (zR 18 0), some (zI a1)], [zR 18 0], M, true)) (u := (22, [some (zR 18 0), some (zI a1)], [zR 18 0], M, true)) rfl h.1 (fun c => ?_) (fun c => ?_)
      · replace h := h.2.1 c
        refine zT.it 5 (t := (41, [some (zR 18 0), some (zI a1)], [zI 2], (z_w M 18 0 1 2), false)) rfl ?_
        refine zT.br (g := zr 2) (p := ¬ 2 = 0) (t := (49, [some (zR 18 0), some (zI a1)], [], (z_w M 18 0 1 2), false)) (u := (44, [some (zR 18 0), some (zI a1)], [], (z_w M 18 0 1 2), false)) rfl (by decide) (fun c => ?_) (fun c => absurd (by decide) c)
        exact zT.ret (v := none) rfl trivial h
      · replace h := h.2.2 (Decidable.not_not.1 c)
        refine zT.it 2 (t := (26, [some (zR 18 0), some (zI a1)], [zI (M.1 18 0 27), zR 18 0], M, true)) rfl ?_
        refine zT.br (g := zr (M.1 18 0 27)) (p := (M.1 18 0 27) = 0) (t := (33, [some (zR 18 0), some (zI a1)], [zR 18 0], M, true)) (u := (29, [some (zR 18 0), some (zI a1)], [zR 18 0], M, true)) rfl h.1 (fun c => ?_) (fun c => ?_)
        · replace h := h.2.1 c
          refine zT.it 4 (t := (41, [some (zR 18 0), some (zI a1)], [zI 0], (z_w M 18 0 1 0), false)) rfl ?_
          refine zT.br (g := zr 0) (p := ¬ 0 = 0) (t := (49, [some (zR 18 0), some (zI a1)], [], (z_w M 18 0 1 0), false)) (u := (44, [some (zR 18 0), some (zI a1)], [], (z_w M 18 0 1 0), false)) rfl (by decide) (fun c => absurd c (by decide)) (fun c => ?_)
          refine zT.it 3 (t := (49, [some (zR 18 0), some (zI a1)], [], (z_w (z_w M 18 0 1 0) 18 0 28 a1), false)) rfl ?_
          exact zT.ret (v := none) rfl trivial h
        · replace h := h.2.2 c
          refine zT.it 5 (t := (41, [some (zR 18 0), some (zI a1)], [zI 2], (z_w M 18 0 1 2), false)) rfl ?_
          refine zT.br (g := zr 2) (p := ¬ 2 = 0) (t := (49, [some (zR 18 0), some (zI a1)], [], (z_w M 18 0 1 2), false)) (u := (44, [some (zR 18 0), some (zI a1)], [], (z_w M 18 0 1 2), false)) rfl (by decide) (fun c => ?_) (fun c => absurd (by decide) c)
          exact zT.ret (v := none) rfl trivial h
    · replace h := h.2.2 c
      refine zT.it 5 (t := (41, [some (zR 18 0), some (zI a1)], [zI 1], (z_w M 18 0 1 1), false)) rfl ?_
      refine zT.br (g := zr 1) (p := ¬ 1 = 0) (t := (49, [some (zR 18 0), some (zI a1)], [], (z_w M 18 0 1 1), false)) (u := (44, [some (zR 18 0), some (zI a1)], [], (z_w M 18 0 1 1), false)) rfl (by decide) (fun c => ?_) (fun c => absurd (by decide) c)
      exact zT.ret (v := none) rfl trivial h
theorem g128_0 {a1 : Int} {a2 : Int} {M : zM} {Q : zQ} (h : (z_wi ((a1 * 4) + a2) 8) ∧ (Q (.inl (some (zI (M.1 13 0 (((a1 * 4) + a2).toNat))))) M true 0)) : zT 128 (0, [some (zR 12 0), some (zI a1), some (zI a2)], [], M, true) Q := by
  refine zT.it 7 (t := (9, [some (zR 12 0), some (zI a1), some (zI a2)], [zI ((a1 * 4) + a2), zR 13 0], M, true)) rfl ?_
  refine zT.chk (p := z_wi ((a1 * 4) + a2) 8) (t := (10, [some (zR 12 0), some (zI a1), some (zI a2)], [zI (M.1 13 0 (((a1 * 4) + a2).toNat))], M, true)) rfl h.1 ?_
  replace h := h.2
  exact zT.ret (v := some (zI (M.1 13 0 (((a1 * 4) + a2).toNat)))) rfl (by first | exact trivial | decide) h
theorem g129_0 {M : zM} {Q : zQ} (h : zF 128 [zR 12 0, zI 1, zI 3] M (fun v M1 => ∃ r1 : Int, v = some (zI r1) ∧ ∀ cl1 : Bool, zF 128 [zR 12 0, zI 0, zI 3] M1 (fun v M2 => ∃ r2 : Int, v = some (zI r2) ∧ ∀ cl2 : Bool, (zr r1 ∧ zr r2) ∧ ((r1 ≤ r2 → Q (.inl (some (zI 0))) M2 cl2 0) ∧ (¬ (r1 ≤ r2) → Q (.inl (some (zI 1))) M2 cl2 0))))) : zT 129 (0, [some (zR 12 0)], [], M, true) Q := by
  refine zT.it 3 (t := (3, [some (zR 12 0)], [zI 3, zI 1, zR 12 0], M, true)) rfl ?_
  refine zT.call (m := 128) (as := [zR 12 0, zI 1, zI 3]) (M := M) (L := [some (zR 12 0)]) (st := []) (pn := 6) (cl := true) rfl ?_
  refine zF.mono h (fun v M1 h cl1 => ?_)
  obtain ⟨r1, e1, h⟩ := h; subst e1; replace h := h cl1
  show zT 129 (6, [some (zR 12 0)], [zI r1], M1, cl1) _
  refine zT.it 3 (t := (9, [some (zR 12 0)], [zI 3, zI 0, zR 12 0, zI r1], M1, cl1)) rfl ?_
  refine zT.call (m := 128) (as := [zR 12 0, zI 0, zI 3]) (M := M1) (L := [some (zR 12 0)]) (st := [zI r1]) (pn := 12) (cl := cl1) rfl ?_
  refine zF.mono h (fun v M2 h cl2 => ?_)
  obtain ⟨r2, e2, h⟩ := h; subst e2; replace h := h cl2
  show zT 129 (12, [some (zR 12 0)], [zI r2, zI r1], M2, cl2) _
  refine zT.br (g := zr r1 ∧ zr r2) (p := r1 ≤ r2) (t := (19, [some (zR 12 0)], [], M2, cl2)) (u := (15, [some (zR 12 0)], [], M2, cl2)) rfl h.1 (fun c => ?_) (fun c => ?_)
  · replace h := h.2.1 c
    refine zT.it 1 (t := (20, [some (zR 12 0)], [zI 0], M2, cl2)) rfl ?_
    exact zT.ret (v := some (zI 0)) rfl (by first | exact trivial | decide) h
  · replace h := h.2.2 c
    refine zT.it 2 (t := (20, [some (zR 12 0)], [zI 1], M2, cl2)) rfl ?_
    exact zT.ret (v := some (zI 1)) rfl (by first | exact trivial | decide) h
theorem g130_0 {M : zM} {Q : zQ} (h : zF 129 [zR 12 0] M (fun v M1 => ∃ r1 : Int, v = some (zI r1) ∧ ∀ cl1 : Bool, zF 128 [zR 12 0, zI r1, zI 3] M1 (fun v M2 => ∃ r2 : Int, v = some (zI r2) ∧ ∀ cl2 : Bool, Q (.inl none) (z_w M2 12 0 1 r2) false 0))) : zT 130 (0, [some (zR 12 0)], [], M, true) Q := by
  refine zT.it 3 (t := (3, [some (zR 12 0)], [zR 12 0, zR 12 0, zR 12 0], M, true)) rfl ?_
  refine zT.call (m := 129) (as := [zR 12 0]) (M := M) (L := [some (zR 12 0)]) (st := [zR 12 0, zR 12 0]) (pn := 6) (cl := true) rfl ?_
  refine zF.mono h (fun v M1 h cl1 => ?_)
  obtain ⟨r1, e1, h⟩ := h; subst e1; replace h := h cl1
  show zT 130 (6, [some (zR 12 0)], [zI r1, zR 12 0, zR 12 0], M1, cl1) _
  refine zT.it 1 (t := (7, [some (zR 12 0)], [zI 3, zI r1, zR 12 0, zR 12 0], M1, cl1)) rfl ?_
  refine zT.call (m := 128) (as := [zR 12 0, zI r1, zI 3]) (M := M1) (L := [some (zR 12 0)]) (st := [zR 12 0]) (pn := 10) (cl := cl1) rfl ?_
  refine zF.mono h (fun v M2 h cl2 => ?_)
  obtain ⟨r2, e2, h⟩ := h; subst e2; replace h := h cl2
  show zT 130 (10, [some (zR 12 0)], [zI r2, zR 12 0], M2, cl2) _
  refine zT.it 1 (t := (13, [some (zR 12 0)], [], (z_w M2 12 0 1 r2), false)) rfl ?_
  exact zT.ret (v := none) rfl trivial h
