-- what each piece of the program asks (written by gen/g.py out of the program itself)
theorem g61_0 {M : zM} {Q : zQ} (h : zF 60 [zR 18 0] M (fun v M1 => ∃ r1 : Int, v = some (zI r1) ∧ ∀ cl1 : Bool, (zr r1) ∧ ((¬ r1 = 0 → (zr (M1.1 25 0 0) ∧ zr (M1.1 24 0 0)) ∧ ((¬ (M1.1 25 0 0) = (M1.1 24 0 0) → (zr (M1.1 18 0 15) ∧ zr 8) ∧ ((¬ (M1.1 18 0 15) = 8 → zF 56 [zR 18 0, zI 70, zI (M1.1 18 0 10)] M1 (fun v M2 => ∃ r2 : Int, v = some (zI r2) ∧ ∀ cl2 : Bool, (z_wi ((3 * (M2.1 18 0 15)) + 0) 27) ∧ ((z_wi ((3 * (M2.1 18 0 15)) + 1) 27) ∧ ((z_wi ((3 * (M2.1 18 0 15)) + 2) 27) ∧ ((z_wi (M2.1 18 0 15) 9) ∧ (Q (.inl (some (zI 0))) (z_w (z_w (z_w (z_w (z_w (z_w (z_w (z_w (z_w M2 18 0 10 r2) 26 0 (((3 * (M2.1 18 0 15)) + 0).toNat) ((M2.1 25 0 0) - (M2.1 24 0 0))) 24 0 0 (M2.1 25 0 0)) 26 0 (((3 * (M2.1 18 0 15)) + 1).toNat) ((M2.1 25 0 1) - (M2.1 24 0 1))) 24 0 1 (M2.1 25 0 1)) 26 0 (((3 * (M2.1 18 0 15)) + 2).toNat) ((M2.1 25 0 2) - (M2.1 24 0 2))) 24 0 2 (M2.1 25 0 2)) 27 0 ((M2.1 18 0 15).toNat) r2) 18 0 15 ((M2.1 18 0 15) + 1)) false 0)))))) ∧ ((M1.1 18 0 15) = 8 → Q (.inl (some (zI (-2)))) M1 cl1 0))) ∧ ((M1.1 25 0 0) = (M1.1 24 0 0) → (zr (M1.1 25 0 1) ∧ zr (M1.1 24 0 1)) ∧ ((¬ (M1.1 25 0 1) = (M1.1 24 0 1) → (zr (M1.1 18 0 15) ∧ zr 8) ∧ ((¬ (M1.1 18 0 15) = 8 → zF 56 [zR 18 0, zI 70, zI (M1.1 18 0 10)] M1 (fun v M3 => ∃ r3 : Int, v = some (zI r3) ∧ ∀ cl3 : Bool, (z_wi ((3 * (M3.1 18 0 15)) + 0) 27) ∧ ((z_wi ((3 * (M3.1 18 0 15)) + 1) 27) ∧ ((z_wi ((3 * (M3.1 18 0 15)) + 2) 27) ∧ ((z_wi (M3.1 18 0 15) 9) ∧ (Q (.inl (some (zI 0))) (z_w (z_w (z_w (z_w (z_w (z_w (z_w (z_w (z_w M3 18 0 10 r3) 26 0 (((3 * (M3.1 18 0 15)) + 0).toNat) ((M3.1 25 0 0) - (M3.1 24 0 0))) 24 0 0 (M3.1 25 0 0)) 26 0 (((3 * (M3.1 18 0 15)) + 1).toNat) ((M3.1 25 0 1) - (M3.1 24 0 1))) 24 0 1 (M3.1 25 0 1)) 26 0 (((3 * (M3.1 18 0 15)) + 2).toNat) ((M3.1 25 0 2) - (M3.1 24 0 2))) 24 0 2 (M3.1 25 0 2)) 27 0 ((M3.1 18 0 15).toNat) r3) 18 0 15 ((M3.1 18 0 15) + 1)) false 0)))))) ∧ ((M1.1 18 0 15) = 8 → Q (.inl (some (zI (-2)))) M1 cl1 0))) ∧ ((M1.1 25 0 1) = (M1.1 24 0 1) → (zr (M1.1 25 0 2) ∧ zr (M1.1 24 0 2)) ∧ (((M1.1 25 0 2) = (M1.1 24 0 2) → zF 56 [zR 18 0, zI 70, zI (M1.1 18 0 10)] M1 (fun v M4 => ∃ r4 : Int, v = some (zI r4) ∧ ∀ cl4 : Bool, Q (.inl (some (zI 0))) (z_w M4 18 0 10 r4) false 0)) ∧ (¬ ((M1.1 25 0 2) = (M1.1 24 0 2)) → (zr (M1.1 18 0 15) ∧ zr 8) ∧ ((¬ (M1.1 18 0 15) = 8 → zF 56 [zR 18 0, zI 70, zI (M1.1 18 0 10)] M1 (fun v M5 => ∃ r5 : Int, v = some (zI r5) ∧ ∀ cl5 : Bool, (z_wi ((3 * (M5.1 18 0 15)) + 0) 27) ∧ ((z_wi ((3 * (M5.1 18 0 15)) + 1) 27) ∧ ((z_wi ((3 * (M5.1 18 0 15)) + 2) 27) ∧ ((z_wi (M5.1 18 0 15) 9) ∧ (Q (.inl (some (zI 0))) (z_w (z_w (z_w (z_w (z_w (z_w (z_w (z_w (z_w M5 18 0 10 r5) 26 0 (((3 * (M5.1 18 0 15)) + 0).toNat) ((M5.1 25 0 0) - (M5.1 24 0 0))) 24 0 0 (M5.1 25 0 0)) 26 0 (((3 * (M5.1 18 0 15)) + 1).toNat) ((M5.1 25 0 1) - (M5.1 24 0 1))) 24 0 1 (M5.1 25 0 1)) 26 0 (((3 * (M5.1 18 0 15)) + 2).toNat) ((M5.1 25 0 2) - (M5.1 24 0 2))) 24 0 2 (M5.1 25 0 2)) 27 0 ((M5.1 18 0 15).toNat) r5) 18 0 15 ((M5.1 18 0 15) + 1)) false 0)))))) ∧ ((M1.1 18 0 15) = 8 → Q (.inl (some (zI (-2)))) M1 cl1 0))))))))) ∧ (r1 = 0 → Q (.inl (some (zI (-3)))) M1 cl1 0)))) : zT 61 (0, [some (zR 18 0), none, none], [], M, true) Q := by
  refine zT.it 1 (t := (1, [some (zR 18 0), none, none], [zR 18 0], M, true)) rfl ?_
  refine zT.call (m := 60) (as := [zR 18 0]) (M := M) (L := [some (zR 18 0), none, none]) (st := []) (pn := 4) (cl := true) rfl ?_
  refine zF.mono h (fun v M1 h cl1 => ?_)
  obtain ⟨r1, e1, h⟩ := h; subst e1; replace h := h cl1
  show zT 61 (4, [some (zR 18 0), none, none], [zI r1], M1, cl1) _
  refine zT.br (g := zr r1) (p := ¬ r1 = 0) (t := (10, [some (zR 18 0), none, none], [], M1, cl1)) (u := (7, [some (zR 18 0), none, none], [], M1, cl1)) rfl h.1 (fun c => ?_) (fun c => ?_)
  · replace h := h.2.1 c
    refine zT.it 3 (t := (15, [some (zR 18 0), none, none], [zI 0, zR 25 0], M1, cl1)) rfl ?_
    refine zT.chk (t := (16, [some (zR 18 0), none, none], [zI (M1.1 25 0 0)], M1, cl1)) rfl (by first | decide | (dsimp only; decide)) ?_
    refine zT.it 3 (t := (21, [some (zR 18 0), none, none], [zI 0, zR 24 0, zI (M1.1 25 0 0)], M1, cl1)) rfl ?_
    refine zT.chk (t := (22, [some (zR 18 0), none, none], [zI (M1.1 24 0 0), zI (M1.1 25 0 0)], M1, cl1)) rfl (by first | decide | (dsimp only; decide)) ?_
    refine zT.br (g := zr (M1.1 25 0 0) ∧ zr (M1.1 24 0 0)) (p := ¬ (M1.1 25 0 0) = (M1.1 24 0 0)) (t := (55, [some (zR 18 0), none, none], [], M1, cl1)) (u := (25, [some (zR 18 0), none, none], [], M1, cl1)) rfl h.1 (fun c => ?_) (fun c => ?_)
    · replace h := h.2.1 c
      refine zT.it 4 (t := (62, [some (zR 18 0), some (zI 1), none], [zI 1], M1, cl1)) rfl ?_
      refine zT.br (g := zr 1) (p := 1 = 0) (t := (77, [some (zR 18 0), some (zI 1), none], [], M1, cl1)) (u := (65, [some (zR 18 0), some (zI 1), none], [], M1, cl1)) rfl (by decide) (fun c => absurd c (by decide)) (fun c => ?_)
      refine zT.it 3 (t := (71, [some (zR 18 0), some (zI 1), none], [zI 8, zI (M1.1 18 0 15)], M1, cl1)) rfl ?_
      refine zT.br (g := zr (M1.1 18 0 15) ∧ zr 8) (p := ¬ (M1.1 18 0 15) = 8) (t := (77, [some (zR 18 0), some (zI 1), none], [], M1, cl1)) (u := (74, [some (zR 18 0), some (zI 1), none], [], M1, cl1)) rfl h.1 (fun c => ?_) (fun c => ?_)
      · replace h := h.2.1 c
        refine zT.it 5 (t := (85, [some (zR 18 0), some (zI 1), none], [zI (M1.1 18 0 10), zI 70, zR 18 0, zR 18 0], M1, cl1)) rfl ?_
        refine zT.call (m := 56) (as := [zR 18 0, zI 70, zI (M1.1 18 0 10)]) (M := M1) (L := [some (zR 18 0), some (zI 1), none]) (st := [zR 18 0]) (pn := 88) (cl := cl1) rfl ?_
        refine zF.mono h (fun v M2 h cl2 => ?_)
        obtain ⟨r2, e2, h⟩ := h; subst e2; replace h := h cl2
        show zT 61 (88, [some (zR 18 0), some (zI 1), none], [zI r2, zR 18 0], M2, cl2) _
        refine zT.it 2 (t := (92, [some (zR 18 0), some (zI 1), none], [zI 1], (z_w M2 18 0 10 r2), false)) rfl ?_
        refine zT.br (g := zr 1) (p := 1 = 0) (t := (169, [some (zR 18 0), some (zI 1), none], [], (z_w M2 18 0 10 r2), false)) (u := (95, [some (zR 18 0), some (zI 1), none], [], (z_w M2 18 0 10 r2), false)) rfl (by decide) (fun c => absurd c (by decide)) (fun c => ?_)
        refine zT.it 4 (t := (99, [some (zR 18 0), some (zI 1), some (zI 0)], [zI 3, zI 0], (z_w M2 18 0 10 r2), false)) rfl ?_
        refine zT.br (g := zr 0 ∧ zr 3) (p := 3 ≤ 0) (t := (146, [some (zR 18 0), some (zI 1), some (zI 0)], [], (z_w M2 18 0 10 r2), false)) (u := (102, [some (zR 18 0), some (zI 1), some (zI 0)], [], (z_w M2 18 0 10 r2), false)) rfl (by decide) (fun c => absurd c (by decide)) (fun c => ?_)
        refine zT.it 11 (t := (119, [some (zR 18 0), some (zI 1), some (zI 0)], [zI 0, zR 25 0, zI ((3 * (M2.1 18 0 15)) + 0), zR 26 0], (z_w M2 18 0 10 r2), false)) rfl ?_
        refine zT.chk (t := (120, [some (zR 18 0), some (zI 1), some (zI 0)], [zI (M2.1 25 0 0), zI ((3 * (M2.1 18 0 15)) + 0), zR 26 0], (z_w M2 18 0 10 r2), false)) rfl (by first | decide | (dsimp only; decide)) ?_
        refine zT.it 3 (t := (125, [some (zR 18 0), some (zI 1), some (zI 0)], [zI 0, zR 24 0, zI (M2.1 25 0 0), zI ((3 * (M2.1 18 0 15)) + 0), zR 26 0], (z_w M2 18 0 10 r2), false)) rfl ?_
        refine zT.chk (t := (126, [some (zR 18 0), some (zI 1), some (zI 0)], [zI (M2.1 24 0 0), zI (M2.1 25 0 0), zI ((3 * (M2.1 18 0 15)) + 0), zR 26 0], (z_w M2 18 0 10 r2), false)) rfl (by first | decide | (dsimp only; decide)) ?_
        refine zT.it 1 (t := (127, [some (zR 18 0), some (zI 1), some (zI 0)], [zI ((M2.1 25 0 0) - (M2.1 24 0 0)), zI ((3 * (M2.1 18 0 15)) + 0), zR 26 0], (z_w M2 18 0 10 r2), false)) rfl ?_
        refine zT.chk (p := z_wi ((3 * (M2.1 18 0 15)) + 0) 27) (t := (128, [some (zR 18 0), some (zI 1), some (zI 0)], [], (z_w (z_w M2 18 0 10 r2) 26 0 (((3 * (M2.1 18 0 15)) + 0).toNat) ((M2.1 25 0 0) - (M2.1 24 0 0))), false)) rfl h.1 ?_
        replace h := h.2
        refine zT.it 6 (t := (138, [some (zR 18 0), some (zI 1), some (zI 0)], [zI 0, zR 25 0, zI 0, zR 24 0], (z_w (z_w M2 18 0 10 r2) 26 0 (((3 * (M2.1 18 0 15)) + 0).toNat) ((M2.1 25 0 0) - (M2.1 24 0 0))), false)) rfl ?_
        refine zT.chk (t := (139, [some (zR 18 0), some (zI 1), some (zI 0)], [zI (M2.1 25 0 0), zI 0, zR 24 0], (z_w (z_w M2 18 0 10 r2) 26 0 (((3 * (M2.1 18 0 15)) + 0).toNat) ((M2.1 25 0 0) - (M2.1 24 0 0))), false)) rfl (by first | decide | (dsimp only; decide)) ?_
        refine zT.chk (t := (140, [some (zR 18 0), some (zI 1), some (zI 0)], [], (z_w (z_w (z_w M2 18 0 10 r2) 26 0 (((3 * (M2.1 18 0 15)) + 0).toNat) ((M2.1 25 0 0) - (M2.1 24 0 0))) 24 0 0 (M2.1 25 0 0)), false)) rfl (by first | decide | (dsimp only; decide)) ?_
        refine zT.it 4 (t := (99, [some (zR 18 0), some (zI 1), some (zI 1)], [zI 3, zI 1], (z_w (z_w (z_w M2 18 0 10 r2) 26 0 (((3 * (M2.1 18 0 15)) + 0).toNat) ((M2.1 25 0 0) - (M2.1 24 0 0))) 24 0 0 (M2.1 25 0 0)), false)) rfl ?_
        refine zT.br (g := zr 1 ∧ zr 3) (p := 3 ≤ 1) (t := (146, [some (zR 18 0), some (zI 1), some (zI 1)], [], (z_w (z_w (z_w M2 18 0 10 r2) 26 0 (((3 * (M2.1 18 0 15)) + 0).toNat) ((M2.1 25 0 0) - (M2.1 24 0 0))) 24 0 0 (M2.1 25 0 0)), false)) (u := (102, [some (zR 18 0), some (zI 1), some (zI 1)], [], (z_w (z_w (z_w M2 18 0 10 r2) 26 0 (((3 * (M2.1 18 0 15)) + 0).toNat) ((M2.1 25 0 0) - (M2.1 24 0 0))) 24 0 0 (M2.1 25 0 0)), false)) rfl (by decide) (fun c => absurd c (by decide)) (fun c => ?_)
        refine zT.it 11 (t := (119, [some (zR 18 0), some (zI 1), some (zI 1)], [zI 1, zR 25 0, zI ((3 * (M2.1 18 0 15)) + 1), zR 26 0], (z_w (z_w (z_w M2 18 0 10 r2) 26 0 (((3 * (M2.1 18 0 15)) + 0).toNat) ((M2.1 25 0 0) - (M2.1 24 0 0))) 24 0 0 (M2.1 25 0 0)), false)) rfl ?_
        refine zT.chk (t := (120, [some (zR 18 0), some (zI 1), some (zI 1)], [zI (M2.1 25 0 1), zI ((3 * (M2.1 18 0 15)) + 1), zR 26 0], (z_w (z_w (z_w M2 18 0 10 r2) 26 0 (((3 * (M2.1 18 0 15)) + 0).toNat) ((M2.1 25 0 0) - (M2.1 24 0 0))) 24 0 0 (M2.1 25 0 0)), false)) rfl (by first | decide | (dsimp only; decide)) ?_
        refine zT.it 3 (t := (125, [some (zR 18 0), some (zI 1), some (zI 1)], [zI 1, zR 24 0, zI (M2.1 25 0 1), zI ((3 * (M2.1 18 0 15)) + 1), zR 26 0], (z_w (z_w (z_w M2 18 0 10 r2) 26 0 (((3 * (M2.1 18 0 15)) + 0).toNat) ((M2.1 25 0 0) - (M2.1 24 0 0))) 24 0 0 (M2.1 25 0 0)), false)) rfl ?_
        refine zT.chk (t := (126, [some (zR 18 0), some (zI 1), some (zI 1)], [zI (M2.1 24 0 1), zI (M2.1 25 0 1), zI ((3 * (M2.1 18 0 15)) + 1), zR 26 0], (z_w (z_w (z_w M2 18 0 10 r2) 26 0 (((3 * (M2.1 18 0 15)) + 0).toNat) ((M2.1 25 0 0) - (M2.1 24 0 0))) 24 0 0 (M2.1 25 0 0)), false)) rfl (by first | decide | (dsimp only; decide)) ?_
        refine zT.it 1 (t := (127, [some (zR 18 0), some (zI 1), some (zI 1)], [zI ((M2.1 25 0 1) - (M2.1 24 0 1)), zI ((3 * (M2.1 18 0 15)) + 1), zR 26 0], (z_w (z_w (z_w M2 18 0 10 r2) 26 0 (((3 * (M2.1 18 0 15)) + 0).toNat) ((M2.1 25 0 0) - (M2.1 24 0 0))) 24 0 0 (M2.1 25 0 0)), false)) rfl ?_
        refine zT.chk (p := z_wi ((3 * (M2.1 18 0 15)) + 1) 27) (t := (128, [some (zR 18 0), some (zI 1), some (zI 1)], [], (z_w (z_w (z_w (z_w M2 18 0 10 r2) 26 0 (((3 * (M2.1 18 0 15)) + 0).toNat) ((M2.1 25 0 0) - (M2.1 24 0 0))) 24 0 0 (M2.1 25 0 0)) 26 0 (((3 * (M2.1 18 0 15)) + 1).toNat) ((M2.1 25 0 1) - (M2.1 24 0 1))), false)) rfl h.1 ?_
        replace h := h.2
        refine zT.it 6 (t := (138, [some (zR 18 0), some (zI 1), some (zI 1)], [zI 1, zR 25 0, zI 1, zR 24 0], (z_w (z_w (z_w (z_w M2 18 0 10 r2) 26 0 (((3 * (M2.1 18 0 15)) + 0).toNat) ((M2.1 25 0 0) - (M2.1 24 0 0))) 24 0 0 (M2.1 25 0 0)) 26 0 (((3 * (M2.1 18 0 15)) + 1).toNat) ((M2.1 25 0 1) - (M2.1 24 0 1))), false)) rfl ?_
        refine zT.chk (t := (139, [some (zR 18 0), some (zI 1), some (zI 1)], [zI (M2.1 25 0 1), zI 1, zR 24 0], (z_w (z_w (z_w (z_w M2 18 0 10 r2) 26 0 (((3 * (M2.1 18 0 15)) + 0).toNat) ((M2.1 25 0 0) - (M2.1 24 0 0))) 24 0 0 (M2.1 25 0 0)) 26 0 (((3 * (M2.1 18 0 15)) + 1).toNat) ((M2.1 25 0 1) - (M2.1 24 0 1))), false)) rfl (by first | decide | (dsimp only; decide)) ?_
        refine zT.chk (t := (140, [some (zR 18 0), some (zI 1), some (zI 1)], [], (z_w (z_w (z_w (z_w (z_w M2 18 0 10 r2) 26 0 (((3 * (M2.1 18 0 15)) + 0).toNat) ((M2.1 25 0 0) - (M2.1 24 0 0))) 24 0 0 (M2.1 25 0 0)) 26 0 (((3 * (M2.1 18 0 15)) + 1).toNat) ((M2.1 25 0 1) - (M2.1 24 0 1))) 24 0 1 (M2.1 25 0 1)), false)) rfl (by first | decide | (dsimp only; decide)) ?_
        refine zT.it 4 (t := (99, [some (zR 18 0), some (zI 1), some (zI 2)], [zI 3, zI 2], (z_w (z_w (z_w (z_w (z_w M2 18 0 10 r2) 26 0 (((3 * (M2.1 18 0 15)) + 0).toNat) ((M2.1 25 0 0) - (M2.1 24 0 0))) 24 0 0 (M2.1 25 0 0)) 26 0 (((3 * (M2.1 18 0 15)) + 1).toNat) ((M2.1 25 0 1) - (M2.1 24 0 1))) 24 0 1 (M2.1 25 0 1)), false)) rfl ?_
        refine zT.br (g := zr 2 ∧ zr 3) (p := 3 ≤ 2) (t := (146, [some (zR 18 0), some (zI 1), some (zI 2)], [], (z_w (z_w (z_w (z_w (z_w M2 18 0 10 r2) 26 0 (((3 * (M2.1 18 0 15)) + 0).toNat) ((M2.1 25 0 0) - (M2.1 24 0 0))) 24 0 0 (M2.1 25 0 0)) 26 0 (((3 * (M2.1 18 0 15)) + 1).toNat) ((M2.1 25 0 1) - (M2.1 24 0 1))) 24 0 1 (M2.1 25 0 1)), false)) (u := (102, [some (zR 18 0), some (zI 1), some (zI 2)], [], (z_w (z_w (z_w (z_w (z_w M2 18 0 10 r2) 26 0 (((3 * (M2.1 18 0 15)) + 0).toNat) ((M2.1 25 0 0) - (M2.1 24 0 0))) 24 0 0 (M2.1 25 0 0)) 26 0 (((3 * (M2.1 18 0 15)) + 1).toNat) ((M2.1 25 0 1) - (M2.1 24 0 1))) 24 0 1 (M2.1 25 0 1)), false)) rfl (by decide) (fun c => absurd c (by decide)) (fun c => ?_)
        refine zT.it 11 (t := (119, [some (zR 18 0), some (zI 1), some (zI 2)], [zI 2, zR 25 0, zI ((3 * (M2.1 18 0 15)) + 2), zR 26 0], (z_w (z_w (z_w (z_w (z_w M2 18 0 10 r2) 26 0 (((3 * (M2.1 18 0 15)) + 0).toNat) ((M2.1 25 0 0) - (M2.1 24 0 0))) 24 0 0 (M2.1 25 0 0)) 26 0 (((3 * (M2.1 18 0 15)) + 1).toNat) ((M2.1 25 0 1) - (M2.1 24 0 1))) 24 0 1 (M2.1 25 0 1)), false)) rfl ?_
        refine zT.chk (t := (120, [some (zR 18 0), some (zI 1), some (zI 2)], [zI (M2.1 25 0 2), zI ((3 * (M2.1 18 0 15)) + 2), zR 26 0], (z_w (z_w (z_w (z_w (z_w M2 18 0 10 r2) 26 0 (((3 * (M2.1 18 0 15)) + 0).toNat) ((M2.1 25 0 0) - (M2.1 24 0 0))) 24 0 0 (M2.1 25 0 0)) 26 0 (((3 * (M2.1 18 0 15)) + 1).toNat) ((M2.1 25 0 1) - (M2.1 24 0 1))) 24 0 1 (M2.1 25 0 1)), false)) rfl (by first | decide | (dsimp only; decide)) ?_
        refine zT.it 3 (t := (125, [some (zR 18 0), some (zI 1), some (zI 2)], [zI 2, zR 24 0, zI (M2.1 25 0 2), zI ((3 * (M2.1 18 0 15)) + 2), zR 26 0], (z_w (z_w (z_w (z_w (z_w M2 18 0 10 r2) 26 0 (((3 * (M2.1 18 0 15)) + 0).toNat) ((M2.1 25 0 0) - (M2.1 24 0 0))) 24 0 0 (M2.1 25 0 0)) 26 0 (((3 * (M2.1 18 0 15)) + 1).toNat) ((M2.1 25 0 1) - (M2.1 24 0 1))) 24 0 1 (M2.1 25 0 1)), false)) rfl ?_
        refine zT.chk (t := (126, [some (zR 18 0), some (zI 1), some (zI 2)], [zI (M2.1 24 0 2), zI (M2.1 25 0 2), zI ((3 * (M2.1 18 0 15)) + 2), zR 26 0], (z_w (z_w (z_w (z_w (z_w M2 18 0 10 r2) 26 0 (((3 * (M2.1 18 0 15)) + 0).toNat) ((M2.1 25 0 0) - (M2.1 24 0 0))) 24 0 0 (M2.1 25 0 0)) 26 0 (((3 * (M2.1 18 0 15)) + 1).toNat) ((M2.1 25 0 1) - (M2.1 24 0 1))) 24 0 1 (M2.1 25 0 1)), false)) rfl (by first | decide | (dsimp only; decide)) ?_
        refine zT.it 1 (t := (127, [some (zR 18 0), some (zI 1), some (zI 2)], [zI ((M2.1 25 0 2) - (M2.1 24 0 2)), zI ((3 * (M2.1 18 0 15)) + 2), zR 26 0], (z_w (z_w (z_w (z_w (z_w M2 18 0 10 r2) 26 0 (((3 * (M2.1 18 0 15)) + 0).toNat) ((M2.1 25 0 0) - (M2.1 24 0 0))) 24 0 0 (M2.1 25 0 0)) 26 0 (((3 * (M2.1 18 0 15)) + 1).toNat) ((M2.1 25 0 1) - (M2.1 24 0 1))) 24 0 1 (M2.1 25 0 1)), false)) rfl ?_
        refine zT.chk (p := z_wi ((3 * (M2.1 18 0 15)) + 2) 27) (t := (128, [some (zR 18 0), some (zI 1), some (zI 2)], [], (z_w (z_w (z_w (z_w (z_w (z_w M2 18 0 10 r2) 26 0 (((3 * (M2.1 18 0 15)) + 0).toNat) ((M2.1 25 0 0) - (M2.1 24 0 0))) 24 0 0 (M2.1 25 0 0)) 26 0 (((3 * (M2.1 18 0 15)) + 1).toNat) ((M2.1 25 0 1) - (M2.1 24 0 1))) 24 0 1 (M2.1 25 0 1)) 26 0 (((3 * (M2.1 18 0 15)) + 2).toNat) ((M2.1 25 0 2) - (M2.1 24 0 2))), false)) rfl h.1 ?_
        replace h := h.2
        refine zT.it 6 (t := (138, [some (zR 18 0), some (zI 1), some (zI 2)], [zI 2, zR 25 0, zI 2, zR 24 0], (z_w (z_w (z_w (z_w (z_w (z_w M2 18 0 10 r2) 26 0 (((3 * (M2.1 18 0 15)) + 0).toNat) ((M2.1 25 0 0) - (M2.1 24 0 0))) 24 0 0 (M2.1 25 0 0)) 26 0 (((3 * (M2.1 18 0 15)) + 1).toNat) ((M2.1 25 0 1) - (M2.1 24 0 1))) 24 0 1 (M2.1 25 0 1)) 26 0 (((3 * (M2.1 18 0 15)) + 2).toNat) ((M2.1 25 0 2) - (M2.1 24 0 2))), false)) rfl ?_
        refine zT.chk (t := (139, [some (zR 18 0), some (zI 1), some (zI 2)], [zI (M2.1 25 0 2), zI 2, zR 24 0], (z_w (z_w (z_w (z_w (z_w (z_w M2 18 0 10 r2) 26 0 (((3 * (M2.1 18 0 15)) + 0).toNat) ((M2.1 25 0 0) - (M2.1 24 0 0))) 24 0 0 (M2.1 25 0 0)) 26 0 (((3 * (M2.1 18 0 15)) + 1).toNat) ((M2.1 25 0 1) - (M2.1 24 0 1))) 24 0 1 (M2.1 25 0 1)) 26 0 (((3 * (M2.1 18 0 15)) + 2).toNat) ((M2.1 25 0 2) - (M2.1 24 0 2))), false)) rfl (by first | decide | (dsimp only; decide)) ?_
        refine zT.chk (t := (140, [some (zR 18 0), some (zI 1), some (zI 2)], [], (z_w (z_w (z_w (z_w (z_w (z_w (z_w M2 18 0 10 r2) 26 0 (((3 * (M2.1 18 0 15)) + 0).toNat) ((M2.1 25 0 0) - (M2.1 24 0 0))) 24 0 0 (M2.1 25 0 0)) 26 0 (((3 * (M2.1 18 0 15)) + 1).toNat) ((M2.1 25 0 1) - (M2.1 24 0 1))) 24 0 1 (M2.1 25 0 1)) 26 0 (((3 * (M2.1 18 0 15)) + 2).toNat) ((M2.1 25 0 2) - (M2.1 24 0 2))) 24 0 2 (M2.1 25 0 2)), false)) rfl (by first | decide | (dsimp only; decide)) ?_
        refine zT.it 4 (t := (99, [some (zR 18 0), some (zI 1), some (zI 3)], [zI 3, zI 3], (z_w (z_w (z_w (z_w (z_w (z_w (z_w M2 18 0 10 r2) 26 0 (((3 * (M2.1 18 0 15)) + 0).toNat) ((M2.1 25 0 0) - (M2.1 24 0 0))) 24 0 0 (M2.1 25 0 0)) 26 0 (((3 * (M2.1 18 0 15)) + 1).toNat) ((M2.1 25 0 1) - (M2.1 24 0 1))) 24 0 1 (M2.1 25 0 1)) 26 0 (((3 * (M2.1 18 0 15)) + 2).toNat) ((M2.1 25 0 2) - (M2.1 24 0 2))) 24 0 2 (M2.1 25 0 2)), false)) rfl ?_
        refine zT.br (g := zr 3 ∧ zr 3) (p := 3 ≤ 3) (t := (146, [some (zR 18 0), some (zI 1), some (zI 3)], [], (z_w (z_w (z_w (z_w (z_w (z_w (z_w M2 18 0 10 r2) 26 0 (((3 * (M2.1 18 0 15)) + 0).toNat) ((M2.1 25 0 0) - (M2.1 24 0 0))) 24 0 0 (M2.1 25 0 0)) 26 0 (((3 * (M2.1 18 0 15)) + 1).toNat) ((M2.1 25 0 1) - (M2.1 24 0 1))) 24 0 1 (M2.1 25 0 1)) 26 0 (((3 * (M2.1 18 0 15)) + 2).toNat) ((M2.1 25 0 2) - (M2.1 24 0 2))) 24 0 2 (M2.1 25 0 2)), false)) (u := (102, [some (zR 18 0), some (zI 1), some (zI 3)], [], (z_w (z_w (z_w (z_w (z_w (z_w (z_w M2 18 0 10 r2) 26 0 (((3 * (M2.1 18 0 15)) + 0).toNat) ((M2.1 25 0 0) - (M2.1 24 0 0))) 24 0 0 (M2.1 25 0 0)) 26 0 (((3 * (M2.1 18 0 15)) + 1).toNat) ((M2.1 25 0 1) - (M2.1 24 0 1))) 24 0 1 (M2.1 25 0 1)) 26 0 (((3 * (M2.1 18 0 15)) + 2).toNat) ((M2.1 25 0 2) - (M2.1 24 0 2))) 24 0 2 (M2.1 25 0 2)), false)) rfl (by decide) (fun c => ?_) (fun c => absurd (by decide) c)
        refine zT.it 6 (t := (158, [some (zR 18 0), some (zI 1), some (zI 3)], [zI r2, zI (M2.1 18 0 15), zR 27 0], (z_w (z_w (z_w (z_w (z_w (z_w (z_w M2 18 0 10 r2) 26 0 (((3 * (M2.1 18 0 15)) + 0).toNat) ((M2.1 25 0 0) - (M2.1 24 0 0))) 24 0 0 (M2.1 25 0 0)) 26 0 (((3 * (M2.1 18 0 15)) + 1).toNat) ((M2.1 25 0 1) - (M2.1 24 0 1))) 24 0 1 (M2.1 25 0 1)) 26 0 (((3 * (M2.1 18 0 15)) + 2).toNat) ((M2.1 25 0 2) - (M2.1 24 0 2))) 24 0 2 (M2.1 25 0 2)), false)) rfl ?_
        refine zT.chk (p := z_wi (M2.1 18 0 15) 9) (t := (159, [some (zR 18 0), some (zI 1), some (zI 3)], [], (z_w (z_w (z_w (z_w (z_w (z_w (z_w (z_w M2 18 0 10 r2) 26 0 (((3 * (M2.1 18 0 15)) + 0).toNat) ((M2.1 25 0 0) - (M2.1 24 0 0))) 24 0 0 (M2.1 25 0 0)) 26 0 (((3 * (M2.1 18 0 15)) + 1).toNat) ((M2.1 25 0 1) - (M2.1 24 0 1))) 24 0 1 (M2.1 25 0 1)) 26 0 (((3 * (M2.1 18 0 15)) + 2).toNat) ((M2.1 25 0 2) - (M2.1 24 0 2))) 24 0 2 (M2.1 25 0 2)) 27 0 ((M2.1 18 0 15).toNat) r2), false)) rfl h.1 ?_
        replace h := h.2
        refine zT.it 7 (t := (170, [some (zR 18 0), some (zI 1), some (zI 3)], [zI 0], (z_w (z_w (z_w (z_w (z_w (z_w (z_w (z_w (z_w M2 18 0 10 r2) 26 0 (((3 * (M2.1 18 0 15)) + 0).toNat) ((M2.1 25 0 0) - (M2.1 24 0 0))) 24 0 0 (M2.1 25 0 0)) 26 0 (((3 * (M2.1 18 0 15)) + 1).toNat) ((M2.1 25 0 1) - (M2.1 24 0 1))) 24 0 1 (M2.1 25 0 1)) 26 0 (((3 * (M2.1 18 0 15)) + 2).toNat) ((M2.1 25 0 2) - (M2.1 24 0 2))) 24 0 2 (M2.1 25 0 2)) 27 0 ((M2.1 18 0 15).toNat) r2) 18 0 15 ((M2.1 18 0 15) + 1)), false)) rfl ?_
        exact zT.ret (v := some (zI 0)) rfl (by first | exact trivial | decide) h
      · replace h := h.2.2 (Decidable.not_not.1 c)
        refine zT.it 1 (t := (76, [some (zR 18 0), some (zI 1), none], [zI (-2)], M1, cl1)) rfl ?_
        exact zT.ret (v := some (zI (-2))) rfl (by first | exact trivial | decide) h
    · replace h := h.2.2 (Decidable.not_not.1 c)
      refine zT.it 3 (t := (30, [some (zR 18 0), none, none], [zI 1, zR 25 0], M1, cl1)) rfl ?_
      refine zT.chk (t := (31, [some (zR 18 0), none, none], [zI (M1.1 25 0 1)], M1, cl1)) rfl (by first | decide | (dsimp only; decide)) ?_
      refine zT.it 3 (t := (36, [some (zR 18 0), none, none], [zI 1, zR 24 0, zI (M1.1 25 0 1)], M1, cl1)) rfl ?_
      refine zT.chk (t := (37, [some (zR 18 0), none, none], [zI (M1.1 24 0 1), zI (M1.1 25 0 1)], M1, cl1)) rfl (by first | decide | (dsimp only; decide)) ?_
      refine zT.br (g := zr (M1.1 25 0 1) ∧ zr (M1.1 24 0 1)) (p := ¬ (M1.1 25 0 1) = (M1.1 24 0 1)) (t := (55, [some (zR 18 0), none, none], [], M1, cl1)) (u := (40, [some (zR 18 0), none, none], [], M1, cl1)) rfl h.1 (fun c => ?_) (fun c => ?_)
      · replace h := h.2.1 c
        refine zT.it 4 (t := (62, [some (zR 18 0), some (zI 1), none], [zI 1], M1, cl1)) rfl ?_
        refine zT.br (g := zr 1) (p := 1 = 0) (t := (77, [some (zR 18 0), some (zI 1), none], [], M1, cl1)) (u := (65, [some (zR 18 0), some (zI 1), none], [], M1, cl1)) rfl (by decide) (fun c => absurd c (by decide)) (fun c => ?_)
        refine zT.it 3 (t := (71, [some (zR 18 0), some (zI 1), none], [zI 8, zI (M1.1 18 0 15)], M1, cl1)) rfl ?_
        refine zT.br (g := zr (M1.1 18 0 15) ∧ zr 8) (p := ¬ (M1.1 18 0 15) = 8) (t := (77, [some (zR 18 0), some (zI 1), none], [], M1, cl1)) (u := (74, [some (zR 18 0), some (zI 1), none], [], M1, cl1)) rfl h.1 (fun c => ?_) (fun c => ?_)
        · replace h := h.2.1 c
          refine zT.it 5 (t := (85, [some (zR 18 0), some (zI 1), none], [zI (M1.1 18 0 10), zI 70, zR 18 0, zR 18 0], M1, cl1)) rfl ?_
          refine zT.call (m := 56) (as := [zR 18 0, zI 70, zI (M1.1 18 0 10)]) (M := M1) (L := [some (zR 18 0), some (zI 1), none]) (st := [zR 18 0]) (pn := 88) (cl := cl1) rfl ?_
          refine zF.mono h (fun v M3 h cl3 => ?_)
          obtain ⟨r3, e3, h⟩ := h; subst e3; replace h := h cl3
          show zT 61 (88, [some (zR 18 0), some (zI 1), none], [zI r3, zR 18 0], M3, cl3) _
          refine zT.it 2 (t := (92, [some (zR 18 0), some (zI 1), none], [zI 1], (z_w M3 18 0 10 r3), false)) rfl ?_
          refine zT.br (g := zr 1) (p := 1 = 0) (t := (169, [some (zR 18 0), some (zI 1), none], [], (z_w M3 18 0 10 r3), false)) (u := (95, [some (zR 18 0), some (zI 1), none], [], (z_w M3 18 0 10 r3), false)) rfl (by decide) (fun c => absurd c (by decide)) (fun c => ?_)
          refine zT.it 4 (t := (99, [some (zR 18 0), some (zI 1), some (zI 0)], [zI 3, zI 0], (z_w M3 18 0 10 r3), false)) rfl ?_
          refine zT.br (g := zr 0 ∧ zr 3) (p := 3 ≤ 0) (t := (146, [some (zR 18 0), some (zI 1), some (zI 0)], [], (z_w M3 18 0 10 r3), false)) (u := (102, [some (zR 18 0), some (zI 1), some (zI 0)], [], (z_w M3 18 0 10 r3), false)) rfl (by decide) (fun c => absurd c (by decide)) (fun c => ?_)
          refine zT.it 11 (t := (119, [some (zR 18 0), some (zI 1), some (zI 0)], [zI 0, zR 25 0, zI ((3 * (M3.1 18 0 15)) + 0), zR 26 0], (z_w M3 18 0 10 r3), false)) rfl ?_
          refine zT.chk (t := (120, [some (zR 18 0), some (zI 1), some (zI 0)], [zI (M3.1 25 0 0), zI ((3 * (M3.1 18 0 15)) + 0), zR 26 0], (z_w M3 18 0 10 r3), false)) rfl (by first | decide | (dsimp only; decide)) ?_
          refine zT.it 3 (t := (125, [some (zR 18 0), some (zI 1), some (zI 0)], [zI 0, zR 24 0, zI (M3.1 25 0 0), zI ((3 * (M3.1 18 0 15)) + 0), zR 26 0], (z_w M3 18 0 10 r3), false)) rfl ?_
          refine zT.chk (t := (126, [some (zR 18 0), some (zI 1), some (zI 0)], [zI (M3.1 24 0 0), zI (M3.1 25 0 0), zI ((3 * (M3.1 18 0 15)) + 0), zR 26 0], (z_w M3 18 0 10 r3), false)) rfl (by first | decide | (dsimp only; decide)) ?_
          refine zT.it 1 (t := (127, [some (zR 18 0), some (zI 1), some (zI 0)], [zI ((M3.1 25 0 0) - (M3.1 24 0 0)), zI ((3 * (M3.1 18 0 15)) + 0), zR 26 0], (z_w M3 18 0 10 r3), false)) rfl ?_
          refine zT.chk (p := z_wi ((3 * (M3.1 18 0 15)) + 0) 27) (t := (128, [some (zR 18 0), some (zI 1), some (zI 0)], [], (z_w (z_w M3 18 0 10 r3) 26 0 (((3 * (M3.1 18 0 15)) + 0).toNat) ((M3.1 25 0 0) - (M3.1 24 0 0))), false)) rfl h.1 ?_
          replace h := h.2
          refine zT.it 6 (t := (138, [some (zR 18 0), some (zI 1), some (zI 0)], [zI 0, zR 25 0, zI 0, zR 24 0], (z_w (z_w M3 18 0 10 r3) 26 0 (((3 * (M3.1 18 0 15)) + 0).toNat) ((M3.1 25 0 0) - (M3.1 24 0 0))), false)) rfl ?_
          refine zT.chk (t := (139, [some (zR 18 0), some (zI 1), some (zI 0)], [zI (M3.1 25 0 0), zI 0, zR 24 0], (z_w (z_w M3 18 0 10 r3) 26 0 (((3 * (M3.1 18 0 15)) + 0).toNat) ((M3.1 25 0 0) - (M3.1 24 0 0))), false)) rfl (by first | decide | (dsimp only; decide)) ?_
          refine zT.chk (t := (140, [some (zR 18 0), some (zI 1), some (zI 0)], [], (z_w (z_w (z_w M3 18 0 10 r3) 26 0 (((3 * (M3.1 18 0 15)) + 0).toNat) ((M3.1 25 0 0) - (M3.1 24 0 0))) 24 0 0 (M3.1 25 0 0)), false)) rfl (by first | decide | (dsimp only; decide)) ?_
          refine zT.it 4 (t := (99, [some (zR 18 0), some (zI 1), some (zI 1)], [zI 3, zI 1], (z_w (z_w (z_w M3 18 0 10 r3) 26 0 (((3 * (M3.1 18 0 15)) + 0).toNat) ((M3.1 25 0 0) - (M3.1 24 0 0))) 24 0 0 (M3.1 25 0 0)), false)) rfl ?_
          refine zT.br (g := zr 1 ∧ zr 3) (p := 3 ≤ 1) (t := (146, [some (zR 18 0), some (zI 1), some (zI 1)], [], (z_w (z_w (z_w M3 18 0 10 r3) 26 0 (((3 * (M3.1 18 0 15)) + 0).toNat) ((M3.1 25 0 0) - (M3.1 24 0 0))) 24 0 0 (M3.1 25 0 0)), false)) (u := (102, [some (zR 18 0), some (zI 1), some (zI 1)], [], (z_w (z_w (z_w M3 18 0 10 r3) 26 0 (((3 * (M3.1 18 0 15)) + 0).toNat) ((M3.1 25 0 0) - (M3.1 24 0 0))) 24 0 0 (M3.1 25 0 0)), false)) rfl (by decide) (fun c => absurd c (by decide)) (fun c => ?_)
          refine zT.it 11 (t := (119, [some (zR 18 0), some (zI 1), some (zI 1)], [zI 1, zR 25 0, zI ((3 * (M3.1 18 0 15)) + 1), zR 26 0], (z_w (z_w (z_w M3 18 0 10 r3) 26 0 (((3 * (M3.1 18 0 15)) + 0).toNat) ((M3.1 25 0 0) - (M3.1 24 0 0))) 24 0 0 (M3.1 25 0 0)), false)) rfl ?_
          refine zT.chk (t := (120, [some (zR 18 0), some (zI 1), some (zI 1)], [zI (M3.1 25 0 1), zI ((3 * (M3.1 18 0 15)) + 1), zR 26 0], (z_w (z_w (z_w M3 18 0 10 r3) 26 0 (((3 * (M3.1 18 0 15)) + 0).toNat) ((M3.1 25 0 0) - (M3.1 24 0 0))) 24 0 0 (M3.1 25 0 0)), false)) rfl (by first | decide | (dsimp only; decide)) ?_
          refine zT.it 3 (t := (125, [some (zR 18 0), some (zI 1), some (zI 1)], [zI 1, zR 24 0, zI (M3.1 25 0 1), zI ((3 * (M3.1 18 0 15)) + 1), zR 26 0], (z_w (z_w (z_w M3 18 0 10 r3) 26 0 (((3 * (M3.1 18 0 15)) + 0).toNat) ((M3.1 25 0 0) - (M3.1 24 0 0))) 24 0 0 (M3.1 25 0 0)), false)) rfl ?_
          refine zT.chk (t := (126, [some (zR 18 0), some (zI 1), some (zI 1)], [zI (M3.1 24 0 1), zI (M3.1 25 0 1), zI ((3 * (M3.1 18 0 15)) + 1), zR 26 0], (z_w (z_w (z_w M3 18 0 10 r3) 26 0 (((3 * (M3.1 18 0 15)) + 0).toNat) ((M3.1 25 0 0) - (M3.1 24 0 0))) 24 0 0 (M3.1 25 0 0)), false)) rfl (by first | decide | (dsimp only; decide)) ?_
          refine zT.it 1 (t := (127, [some (zR 18 0), some (zI 1), some (zI 1)], [zI ((M3.1 25 0 1) - (M3.1 24 0 1)), zI ((3 * (M3.1 18 0 15)) + 1), zR 26 0], (z_w (z_w (z_w M3 18 0 10 r3) 26 0 (((3 * (M3.1 18 0 15)) + 0).toNat) ((M3.1 25 0 0) - (M3.1 24 0 0))) 24 0 0 (M3.1 25 0 0)), false)) rfl ?_
          refine zT.chk (p := z_wi ((3 * (M3.1 18 0 15)) + 1) 27) (t := (128, [some (zR 18 0), some (zI 1), some (zI 1)], [], (z_w (z_w (z_w (z_w M3 18 0 10 r3) 26 0 (((3 * (M3.1 18 0 15)) + 0).toNat) ((M3.1 25 0 0) - (M3.1 24 0 0))) 24 0 0 (M3.1 25 0 0)) 26 0 (((3 * (M3.1 18 0 15)) + 1).toNat) ((M3.1 25 0 1) - (M3.1 24 0 1))), false)) rfl h.1 ?_
          replace h := h.2
          refine zT.it 6 (t := (138, [some (zR 18 0), some (zI 1), some (zI 1)], [zI 1, zR 25 0, zI 1, zR 24 0], (z_w (z_w (z_w (z_w M3 18 0 10 r3) 26 0 (((3 * (M3.1 18 0 15)) + 0).toNat) ((M3.1 25 0 0) - (M3.1 24 0 0))) 24 0 0 (M3.1 25 0 0)) 26 0 (((3 * (M3.1 18 0 15)) + 1).toNat) ((M3.1 25 0 1) - (M3.1 24 0 1))), false)) rfl ?_
          refine zT.chk (t := (139, [some (zR 18 0), some (zI 1), some (zI 1)], [zI (M3.1 25 0 1), zI 1, zR 24 0], (z_w (z_w (z_w (z_w M3 18 0 10 r3) 26 0 (((3 * (M3.1 18 0 15)) + 0).toNat) ((M3.1 25 0 0) - (M3.1 24 0 0))) 24 0 0 (M3.1 25 0 0)) 26 0 (((3 * (M3.1 18 0 15)) + 1).toNat) ((M3.1 25 0 1) - (M3.1 24 0 1))), false)) rfl (by first | decide | (dsimp only; decide)) ?_
          refine zT.chk (t := (140, [some (zR 18 0), some (zI 1), some (zI 1)], [], (z_w (z_w (z_w (z_w (z_w M3 18 0 10 r3) 26 0 (((3 * (M3.1 18 0 15)) + 0).toNat) ((M3.1 25 0 0) - (M3.1 24 0 0))) 24 0 0 (M3.1 25 0 0)) 26 0 (((3 * (M3.1 18 0 15)) + 1).toNat) ((M3.1 25 0 1) - (M3.1 24 0 1))) 24 0 1 (M3.1 25 0 1)), false)) rfl (by first | decide | (dsimp only; decide)) ?_
          refine zT.it 4 (t := (99, [some (zR 18 0), some (zI 1), some (zI 2)], [zI 3, zI 2], (z_w (z_w (z_w (z_w (z_w M3 18 0 10 r3) 26 0 (((3 * (M3.1 18 0 15)) + 0).toNat) ((M3.1 25 0 0) - (M3.1 24 0 0))) 24 0 0 (M3.1 25 0 0)) 26 0 (((3 * (M3.1 18 0 15)) + 1).toNat) ((M3.1 25 0 1) - (M3.1 24 0 1))) 24 0 1 (M3.1 25 0 1)), false)) rfl ?_
          refine zT.br (g := zr 2 ∧ zr 3) (p := 3 ≤ 2) (t := (146, [some (zR 18 0), some (zI 1), some (zI 2)], [], (z_w (z_w (z_w (z_w (z_w M3 18 0 10 r3) 26 0 (((3 * (M3.1 18 0 15)) + 0).toNat) ((M3.1 25 0 0) - (M3.1 24 0 0))) 24 0 0 (M3.1 25 0 0)) 26 0 (((3 * (M3.1 18 0 15)) + 1).toNat) ((M3.1 25 0 1) - (M3.1 24 0 1))) 24 0 1 (M3.1 25 0 1)), false)) (u := (102, [some (zR 18 0), some (zI 1), some (zI 2)], [], (z_w (z_w (z_w (z_w (z_w M3 18 0 10 r3) 26 0 (((3 * (M3.1 18 0 15)) + 0).toNat) ((M3.1 25 0 0) - (M3.1 24 0 0))) 24 0 0 (M3.1 25 0 0)) 26 0 (((3 * (M3.1 18 0 15)) + 1).toNat) ((M3.1 25 0 1) - (M3.1 24 0 1))) 24 0 1 (M3.1 25 0 1)), false)) rfl (by decide) (fun c => absurd c (by decide)) (fun c => ?_)
          refine zT.it 11 (t := (119, [some (zR 18 0), some (zI 1), some (zI 2)], [zI 2, zR 25 0, zI ((3 * (M3.1 18 0 15)) + 2), zR 26 0], (z_w (z_w (z_w (z_w (z_w M3 18 0 10 r3) 26 0 (((3 * (M3.1 18 0 15)) + 0).toNat) ((M3.1 25 0 0) - (M3.1 24 0 0))) 24 0 0 (M3.1 25 0 0)) 26 0 (((3 * (M3.1 18 0 15)) + 1).toNat) ((M3.1 25 0 1) - (M3.1 24 0 1))) 24 0 1 (M3.1 25 0 1)), false)) rfl ?_
          refine zT.chk (t := (120, [some (zR 18 0), some (zI 1), some (zI 2)], [zI (M3.1 25 0 2), zI ((3 * (M3.1 18 0 15)) + 2), zR 26 0], (z_w (z_w (z_w (z_w (z_w M3 18 0 10 r3) 26 0 (((3 * (M3.1 18 0 15)) + 0).toNat) ((M3.1 25 0 0) - (M3.1 24 0 0))) 24 0 0 (M3.1 25 0 0)) 26 0 (((3 * (M3.1 18 0 15)) + 1).toNat) ((M3.1 25 0 1) - (M3.1 24 0 1))) 24 0 1 (M3.1 25 0 1)), false)) rfl (by first | decide | (dsimp only; decide)) ?_
          refine zT.it 3 (t := (125, [some (zR 18 0), some (zI 1), some (zI 2)], [zI 2, zR 24 0, zI (M3.1 25 0 2), zI ((3 * (M3.1 18 0 15)) + 2), zR 26 0], (z_w (z_w (z_w (z_w (z_w M3 18 0 10 r3) 26 0 (((3 * (M3.1 18 0 15)) + 0).toNat) ((M3.1 25 0 0) - (M3.1 24 0 0))) 24 0 0 (M3.1 25 0 0)) 26 0 (((3 * (M3.1 18 0 15)) + 1).toNat) ((M3.1 25 0 1) - (M3.1 24 0 1))) 24 0 1 (M3.1 25 0 1)), false)) rfl ?_
          refine zT.chk (t := (126, [some (zR 18 0), some (zI 1), some (zI 2)], [zI (M3.1 24 0 2), zI (M3.1 25 0 2), zI ((3 * (M3.1 18 0 15)) + 2), zR 26 0], (z_w (z_w (z_w (z_w (z_w M3 18 0 10 r3) 26 0 (((3 * (M3.1 18 0 15)) + 0).toNat) ((M3.1 25 0 0) - (M3.1 24 0 0))) 24 0 0 (M3.1 25 0 0)) 26 0 (((3 * (M3.1 18 0 15)) + 1).toNat) ((M3.1 25 0 1) - (M3.1 24 0 1))) 24 0 1 (M3.1 25 0 1)), false)) rfl (by first | decide | (dsimp only; decide)) ?_
          refine zT.it 1 (t := (127, [some (zR 18 0), some (zI 1), some (zI 2)], [zI ((M3.1 25 0 2) - (M3.1 24 0 2)), zI ((3 * (M3.1 18 0 15)) + 2), zR 26 0], (z_w (z_w (z_w (z_w (z_w M3 18 0 10 r3) 26 0 (((3 * (M3.1 18 0 15)) + 0).toNat) ((M3.1 25 0 0) - (M3.1 24 0 0))) 24 0 0 (M3.1 25 0 0)) 26 0 (((3 * (M3.1 18 0 15)) + 1).toNat) ((M3.1 25 0 1) - (M3.1 24 0 1))) 24 0 1 (M3.1 25 0 1)), false)) rfl ?_
          refine zT.chk (p := z_wi ((3 * (M3.1 18 0 15)) + 2) 27) (t := (128, [some (zR 18 0), some (zI 1), some (zI 2)], [], (z_w (z_w (z_w (z_w (z_w (z_w M3 18 0 10 r3) 26 0 (((3 * (M3.1 18 0 15)) + 0).toNat) ((M3.1 25 0 0) - (M3.1 24 0 0))) 24 0 0 (M3.1 25 0 0)) 26 0 (((3 * (M3.1 18 0 15)) + 1).toNat) ((M3.1 25 0 1) - (M3.1 24 0 1))) 24 0 1 (M3.1 25 0 1)) 26 0 (((3 * (M3.1 18 0 15)) + 2).toNat) ((M3.1 25 0 2) - (M3.1 24 0 2))), false)) rfl h.1 ?_
          replace h := h.2
          refine zT.it 6 (t := (138, [some (zR 18 0), some (zI 1), some (zI 2)], [zI 2, zR 25 0, zI 2, zR 24 0], (z_w (z_w (z_w (z_w (z_w (z_w M3 18 0 10 r3) 26 0 (((3 * (M3.1 18 0 15)) + 0).toNat) ((M3.1 25 0 0) - (M3.1 24 0 0))) 24 0 0 (M3.1 25 0 0)) 26 0 (((3 * (M3.1 18 0 15)) + 1).toNat) ((M3.1 25 0 1) - (M3.1 24 0 1))) 24 0 1 (M3.1 25 0 1)) 26 0 (((3 * (M3.1 18 0 15)) + 2).toNat) ((M3.1 25 0 2) - (M3.1 24 0 2))), false)) rfl ?_
          refine zT.chk (t := (139, [some (zR 18 0), some (zI 1), some (zI 2)], [zI (M3.1 25 0 2), zI 2, zR 24 0], (z_w (z_w (z_w (z_w (z_w (z_w M3 18 0 10 r3) 26 0 (((3 * (M3.1 18 0 15)) + 0).toNat) ((M3.1 25 0 0) - (M3.1 24 0 0))) 24 0 0 (M3.1 25 0 0)) 26 0 (((3 * (M3.1 18 0 15)) + 1).toNat) ((M3.1 25 0 1) - (M3.1 24 0 1))) 24 0 1 (M3.1 25 0 1)) 26 0 (((3 * (M3.1 18 0 15)) + 2).toNat) ((M3.1 25 0 2) - (M3.1 24 0 2))), false)) rfl (by first | decide | (dsimp only; decide)) ?_
          refine zT.chk (t := (140, [some (zR 18 0), some (zI 1), some (zI 2)], [], (z_w (z_w (z_w (z_w (z_w (z_w (z_w M3 18 0 10 r3) 26 0 (((3 * (M3.1 18 0 15)) + 0).toNat) ((M3.1 25 0 0) - (M3.1 24 0 0))) 24 0 0 (M3.1 25 0 0)) 26 0 (((3 * (M3.1 18 0 15)) + 1).toNat) ((M3.1 25 0 1) - (M3.1 24 0 1))) 24 0 1 (M3.1 25 0 1)) 26 0 (((3 * (M3.1 18 0 15)) + 2).toNat) ((M3.1 25 0 2) - (M3.1 24 0 2))) 24 0 2 (M3.1 25 0 2)), false)) rfl (by first | decide | (dsimp only; decide)) ?_
          refine zT.it 4 (t := (99, [some (zR 18 0), some (zI 1), some (zI 3)], [zI 3, zI 3], (z_w (z_w (z_w (z_w (z_w (z_w (z_w M3 18 0 10 r3) 26 0 (((3 * (M3.1 18 0 15)) + 0).toNat) ((M3.1 25 0 0) - (M3.1 24 0 0))) 24 0 0 (M3.1 25 0 0)) 26 0 (((3 * (M3.1 18 0 15)) + 1).toNat) ((M3.1 25 0 1) - (M3.1 24 0 1))) 24 0 1 (M3.1 25 0 1)) 26 0 (((3 * (M3.1 18 0 15)) + 2).toNat) ((M3.1 25 0 2) - (M3.1 24 0 2))) 24 0 2 (M3.1 25 0 2)), false)) rfl ?_
          refine zT.br (g := zr 3 ∧ zr 3) (p := 3 ≤ 3) (t := (146, [some (zR 18 0), some (zI 1), some (zI 3)], [], (z_w (z_w (z_w (z_w (z_w (z_w (z_w M3 18 0 10 r3) 26 0 (((3 * (M3.1 18 0 15)) + 0).toNat) ((M3.1 25 0 0) - (M3.1 24 0 0))) 24 0 0 (M3.1 25 0 0)) 26 0 (((3 * (M3.1 18 0 15)) + 1).toNat) ((M3.1 25 0 1) - (M3.1 24 0 1))) 24 0 1 (M3.1 25 0 1)) 26 0 (((3 * (M3.1 18 0 15)) + 2).toNat) ((M3.1 25 0 2) - (M3.1 24 0 2))) 24 0 2 (M3.1 25 0 2)), false)) (u := (102, [some (zR 18 0), some (zI 1), some (zI 3)], [], (z_w (z_w (z_w (z_w (z_w (z_w (z_w M3 18 0 10 r3) 26 0 (((3 * (M3.1 18 0 15)) + 0).toNat) ((M3.1 25 0 0) - (M3.1 24 0 0))) 24 0 0 (M3.1 25 0 0)) 26 0 (((3 * (M3.1 18 0 15)) + 1).toNat) ((M3.1 25 0 1) - (M3.1 24 0 1))) 24 0 1 (M3.1 25 0 1)) 26 0 (((3 * (M3.1 18 0 15)) + 2).toNat) ((M3.1 25 0 2) - (M3.1 24 0 2))) 24 0 2 (M3.1 25 0 2)), false)) rfl (by decide) (fun c => ?_) (fun c => absurd (by decide) c)
          refine zT.it 6 (t := (158, [some (zR 18 0), some (zI 1), some (zI 3)], [zI r3, zI (M3.1 18 0 15), zR 27 0], (z_w (z_w (z_w (z_w (z_w (z_w (z_w M3 18 0 10 r3) 26 0 (((3 * (M3.1 18 0 15)) + 0).toNat) ((M3.1 25 0 0) - (M3.1 24 0 0))) 24 0 0 (M3.1 25 0 0)) 26 0 (((3 * (M3.1 18 0 15)) + 1).toNat) ((M3.1 25 0 1) - (M3.1 24 0 1))) 24 0 1 (M3.1 25 0 1)) 26 0 (((3 * (M3.1 18 0 15)) + 2).toNat) ((M3.1 25 0 2) - (M3.1 24 0 2))) 24 0 2 (M3.1 25 0 2)), false)) rfl ?_
          refine zT.chk (p := z_wi (M3.1 18 0 15) 9) (t := (159, [some (zR 18 0), some (zI 1), some (zI 3)], [], (z_w (z_w (z_w (z_w (z_w (z_w (z_w (z_w M3 18 0 10 r3) 26 0 (((3 * (M3.1 18 0 15)) + 0).toNat) ((M3.1 25 0 0) - (M3.1 24 0 0))) 24 0 0 (M3.1 25 0 0)) 26 0 (((3 * (M3.1 18 0 15)) + 1).toNat) ((M3.1 25 0 1) - (M3.1 24 0 1))) 24 0 1 (M3.1 25 0 1)) 26 0 (((3 * (M3.1 18 0 15)) + 2).toNat) ((M3.1 25 0 2) - (M3.1 24 0 2))) 24 0 2 (M3.1 25 0 2)) 27 0 ((M3.1 18 0 15).toNat) r3), false)) rfl h.1 ?_
          replace h := h.2
          refine zT.it 7 (t := (170, [some (zR 18 0), some (zI 1), some (zI 3)], [zI 0], (z_w (z_w (z_w (z_w (z_w (z_w (z_w (z_w (z_w M3 18 0 10 r3) 26 0 (((3 * (M3.1 18 0 15)) + 0).toNat) ((M3.1 25 0 0) - (M3.1 24 0 0))) 24 0 0 (M3.1 25 0 0)) 26 0 (((3 * (M3.1 18 0 15)) + 1).toNat) ((M3.1 25 0 1) - (M3.1 24 0 1))) 24 0 1 (M3.1 25 0 1)) 26 0 (((3 * (M3.1 18 0 15)) + 2).toNat) ((M3.1 25 0 2) - (M3.1 24 0 2))) 24 0 2 (M3.1 25 0 2)) 27 0 ((M3.1 18 0 15).toNat) r3) 18 0 15 ((M3.1 18 0 15) + 1)), false)) rfl ?_
          exact zT.ret (v := some (zI 0)) rfl (by first | exact trivial | decide) h
        · replace h := h.2.2 (Decidable.not_not.1 c)
          refine zT.it 1 (t := (76, [some (zR 18 0), some (zI 1), none], [zI (-2)], M1, cl1)) rfl ?_
          exact zT.ret (v := some (zI (-2))) rfl (by first | exact trivial | decide) h
      · replace h := h.2.2 (Decidable.not_not.1 c)
        refine zT.it 3 (t := (45, [some (zR 18 0), none, none], [zI 2, zR 25 0], M1, cl1)) rfl ?_
        refine zT.chk (t := (46, [some (zR 18 0), none, none], [zI (M1.1 25 0 2)], M1, cl1)) rfl (by first | decide | (dsimp only; decide)) ?_
        refine zT.it 3 (t := (51, [some (zR 18 0), none, none], [zI 2, zR 24 0, zI (M1.1 25 0 2)], M1, cl1)) rfl ?_
        refine zT.chk (t := (52, [some (zR 18 0), none, none], [zI (M1.1 24 0 2), zI (M1.1 25 0 2)], M1, cl1)) rfl (by first | decide | (dsimp only; decide)) ?_
        refine zT.br (g := zr (M1.1 25 0 2) ∧ zr (M1.1 24 0 2)) (p := (M1.1 25 0 2) = (M1.1 24 0 2)) (t := (59, [some (zR 18 0), none, none], [], M1, cl1)) (u := (55, [some (zR 18 0), none, none], [], M1, cl1)) rfl h.1 (fun c => ?_) (fun c => ?_)
        · replace h := h.2.1 c
          refine zT.it 3 (t := (62, [some (zR 18 0), some (zI 0), none], [zI 0], M1, cl1)) rfl ?_
          refine zT.br (g := zr 0) (p := 0 = 0) (t := (77, [some (zR 18 0), some (zI 0), none], [], M1, cl1)) (u := (65, [some (zR 18 0), some (zI 0), none], [], M1, cl1)) rfl (by decide) (fun c => ?_) (fun c => absurd (by decide) c)
          refine zT.it 5 (t := (85, [some (zR 18 0), some (zI 0), none], [zI (M1.1 18 0 10), zI 70, zR 18 0, zR 18 0], M1, cl1)) rfl ?_
          refine zT.call (m := 56) (as := [zR 18 0, zI 70, zI (M1.1 18 0 10)]) (M := M1) (L := [some (zR 18 0), some (zI 0), none]) (st := [zR 18 0]) (pn := 88) (cl := cl1) rfl ?_
          refine zF.mono h (fun v M4 h cl4 => ?_)
          obtain ⟨r4, e4, h⟩ := h; subst e4; replace h := h cl4
          show zT 61 (88, [some (zR 18 0), some (zI 0), none], [zI r4, zR 18 0], M4, cl4) _
          refine zT.it 2 (t := (92, [some (zR 18 0), some (zI 0), none], [zI 0], (z_w M4 18 0 10 r4), false)) rfl ?_
          refine zT.br (g := zr 0) (p := 0 = 0) (t := (169, [some (zR 18 0), some (zI 0), none], [], (z_w M4 18 0 10 r4), false)) (u := (95, [some (zR 18 0), some (zI 0), none], [], (z_w M4 18 0 10 r4), false)) rfl (by decide) (fun c => ?_) (fun c => absurd (by decide) c)
          refine zT.it 1 (t := (170, [some (zR 18 0), some (zI 0), none], [zI 0], (z_w M4 18 0 10 r4), false)) rfl ?_
          exact zT.ret (v := some (zI 0)) rfl (by first | exact trivial | decide) h
        · replace h := h.2.2 c
          refine zT.it 4 (t := (62, [some (zR 18 0), some (zI 1), none], [zI 1], M1, cl1)) rfl ?_
          refine zT.br (g := zr 1) (p := 1 = 0) (t := (77, [some (zR 18 0), some (zI 1), none], [], M1, cl1)) (u := (65, [some (zR 18 0), some (zI 1), none], [], M1, cl1)) rfl (by decide) (fun c => absurd c (by decide)) (fun c => ?_)
          refine zT.it 3 (t := (71, [some (zR 18 0), some (zI 1), none], [zI 8, zI (M1.1 18 0 15)], M1, cl1)) rfl ?_
          refine zT.br (g := zr (M1.1 18 0 15) ∧ zr 8) (p := ¬ (M1.1 18 0 15) = 8) (t := (77, [some (zR 18 0), some (zI 1), none], [], M1, cl1)) (u := (74, [some (zR 18 0), some (zI 1), none], [], M1, cl1)) rfl h.1 (fun c => ?_) (fun c => ?_)
          · replace h := h.2.1 c
            refine zT.it 5 (t := (85, [some (zR 18 0), some (zI 1), none], [zI (M1.1 18 0 10), zI 70, zR 18 0, zR 18 0], M1, cl1)) rfl ?_
            refine zT.call (m := 56) (as := [zR 18 0, zI 70, zI (M1.1 18 0 10)]) (M := M1) (L := [some (zR 18 0), some (zI 1), none]) (st := [zR 18 0]) (pn := 88) (cl := cl1) rfl ?_
            refine zF.mono h (fun v M5 h cl5 => ?_)
            obtain ⟨r5, e5, h⟩ := h; subst e5; replace h := h cl5
            show zT 61 (88, [some (zR 18 0), some (zI 1), none], [zI r5, zR 18 0], M5, cl5) _
            refine zT.it 2 (t := (92, [some (zR 18 0), some (zI 1), none], [zI 1], (z_w M5 18 0 10 r5), false)) rfl ?_
            refine zT.br (g := zr 1) (p := 1 = 0) (t := (169, [some (zR 18 0), some (zI 1), none], [], (z_w M5 18 0 10 r5), false)) (u := (95, [some (zR 18 0), some (zI 1), none], [], (z_w M5 18 0 10 r5), false)) rfl (by decide) (fun c => absurd c (by decide)) (fun c => ?_)
            refine zT.it 4 (t := (99, [some (zR 18 0), some (zI 1), some (zI 0)], [zI 3, zI 0], (z_w M5 18 0 10 r5), false)) rfl ?_
            refine zT.br (g := zr 0 ∧ zr 3) (p := 3 ≤ 0) (t := (146, [some (zR 18 0), some (zI 1), some (zI 0)], [], (z_w M5 18 0 10 r5), false)) (u := (102, [some (zR 18 0), some (zI 1), some (zI 0)], [], (z_w M5 18 0 10 r5), false)) rfl (by decide) (fun c => absurd c (by decide)) (fun c => ?_)
            refine zT.it 11 (t := (119, [some (zR 18 0), some (zI 1), some (zI 0)], [zI 0, zR 25 0, zI ((3 * (M5.1 18 0 15)) + 0), zR 26 0], (z_w M5 18 0 10 r5), false)) rfl ?_
            refine zT.chk (t := (120, [some (zR 18 0), some (zI 1), some (zI 0)], [zI (M5.1 25 0 0), zI ((3 * (M5.1 18 0 15)) + 0), zR 26 0], (z_w M5 18 0 10 r5), false)) rfl (by first | decide | (dsimp only; decide)) ?_
            refine zT.it 3 (t := (125, [some (zR 18 0), some (zI 1), some (zI 0)], [zI 0, zR 24 0, zI (M5.1 25 0 0), zI ((3 * (M5.1 18 0 15)) + 0), zR 26 0], (z_w M5 18 0 10 r5), false)) rfl ?_
            refine zT.chk (t := (126, [some (zR 18 0), some (zI 1), some (zI 0)], [zI (M5.1 24 0 0), zI (M5.1 25 0 0), zI ((3 * (M5.1 18 0 15)) + 0), zR 26 0], (z_w M5 18 0 10 r5), false)) rfl (by first | decide | (dsimp only; decide)) ?_
            refine zT.it 1 (t := (127, [some (zR 18 0), some (zI 1), some (zI 0)], [zI ((M5.1 25 0 0) - (M5.1 24 0 0)), zI ((3 * (M5.1 18 0 15)) + 0), zR 26 0], (z_w M5 18 0 10 r5), false)) rfl ?_
            refine zT.chk (p := z_wi ((3 * (M5.1 18 0 15)) + 0) 27) (t := (128, [some (zR 18 0), some (zI 1), some (zI 0)], [], (z_w (z_w M5 18 0 10 r5) 26 0 (((3 * (M5.1 18 0 15)) + 0).toNat) ((M5.1 25 0 0) - (M5.1 24 0 0))), false)) rfl h.1 ?_
            replace h := h.2
            refine zT.it 6 (t := (138, [some (zR 18 0), some (zI 1), some (zI 0)], [zI 0, zR 25 0, zI 0, zR 24 0], (z_w (z_w M5 18 0 10 r5) 26 0 (((3 * (M5.1 18 0 15)) + 0).toNat) ((M5.1 25 0 0) - (M5.1 24 0 0))), false)) rfl ?_
            refine zT.chk (t := (139, [some (zR 18 0), some (zI 1), some (zI 0)], [zI (M5.1 25 0 0), zI 0, zR 24 0], (z_w (z_w M5 18 0 10 r5) 26 0 (((3 * (M5.1 18 0 15)) + 0).toNat) ((M5.1 25 0 0) - (M5.1 24 0 0))), false)) rfl (by first | decide | (dsimp only; decide)) ?_
            refine zT.chk (t := (140, [some (zR 18 0), some (zI 1), some (zI 0)], [], (z_w (z_w (z_w M5 18 0 10 r5) 26 0 (((3 * (M5.1 18 0 15)) + 0).toNat) ((M5.1 25 0 0) - (M5.1 24 0 0))) 24 0 0 (M5.1 25 0 0)), false)) rfl (by first | decide | (dsimp only; decide)) ?_
            refine zT.it 4 (t := (99, [some (zR 18 0), some (zI 1), some (zI 1)], [zI 3, zI 1], (z_w (z_w (z_w M5 18 0 10 r5) 26 0 (((3 * (M5.1 18 0 15)) + 0).toNat) ((M5.1 25 0 0) - (M5.1 24 0 0))) 24 0 0 (M5.1 25 0 0)), false)) rfl ?_
            refine zT.br (g := zr 1 ∧ zr 3) (p := 3 ≤ 1) (t := (146, [some (zR 18 0), some (zI 1), some (zI 1)], [], (z_w (z_w (z_w M5 18 0 10 r5) 26 0 (((3 * (M5.1 18 0 15)) + 0).toNat) ((M5.1 25 0 0) - (M5.1 24 0 0))) 24 0 0 (M5.1 25 0 0)), false)) (u := (102, [some (zR 18 0), some (zI 1), some (zI 1)], [], (z_w (z_w (z_w M5 18 0 10 r5) 26 0 (((3 * (M5.1 18 0 15)) + 0).toNat) ((M5.1 25 0 0) - (M5.1 24 0 0))) 24 0 0 (M5.1 25 0 0)), false)) rfl (by decide) (fun c => absurd c (by decide)) (fun c => ?_)
            refine zT.it 11 (t := (119, [some (zR 18 0), some (zI 1), some (zI 1)], [zI 1, zR 25 0, zI ((3 * (M5.1 18 0 15)) + 1), zR 26 0], (z_w (z_w (z_w M5 18 0 10 r5) 26 0 (((3 * (M5.1 18 0 15)) + 0).toNat) ((M5.1 25 0 0) - (M5.1 24 0 0))) 24 0 0 (M5.1 25 0 0)), false)) rfl ?_
            refine zT.chk (t := (120, [some (zR 18 0), some (zI 1), some (zI 1)], [zI (M5.1 25 0 1), zI ((3 * (M5.1 18 0 15)) + 1), zR 26 0], (z_w (z_w (z_w M5 18 0 10 r5) 26 0 (((3 * (M5.1 18 0 15)) + 0).toNat) ((M5.1 25 0 0) - (M5.1 24 0 0))) 24 0 0 (M5.1 25 0 0)), false)) rfl (by first | decide | (dsimp only; decide)) ?_
            refine zT.it 3 (t := (125, [some (zR 18 0), some (zI 1), some (zI 1)], [zI 1, zR 24 0, zI (M5.1 25 0 1), zI ((3 * (M5.1 18 0 15)) + 1), zR 26 0], (z_w (z_w (z_w M5 18 0 10 r5) 26 0 (((3 * (M5.1 18 0 15)) + 0).toNat) ((M5.1 25 0 0) - (M5.1 24 0 0))) 24 0 0 (M5.1 25 0 0)), false)) rfl ?_
            refine zT.chk (t := (126, [some (zR 18 0), some (zI 1), some (zI 1)], [zI (M5.1 24 0 1), zI (M5.1 25 0 1), zI ((3 * (M5.1 18 0 15)) + 1), zR 26 0], (z_w (z_w (z_w M5 18 0 10 r5) 26 0 (((3 * (M5.1 18 0 15)) + 0).toNat) ((M5.1 25 0 0) - (M5.1 24 0 0))) 24 0 0 (M5.1 25 0 0)), false)) rfl (by first | decide | (dsimp only; decide)) ?_
            refine zT.it 1 (t := (127, [some (zR 18 0), some (zI 1), some (zI 1)], [zI ((M5.1 25 0 1) - (M5.1 24 0 1)), zI ((3 * (M5.1 18 0 15)) + 1), zR 26 0], (z_w (z_w (z_w M5 18 0 10 r5) 26 0 (((3 * (M5.1 18 0 15)) + 0).toNat) ((M5.1 25 0 0) - (M5.1 24 0 0))) 24 0 0 (M5.1 25 0 0)), false)) rfl ?_
            refine zT.chk (p := z_wi ((3 * (M5.1 18 0 15)) + 1) 27) (t := (128, [some (zR 18 0), some (zI 1), some (zI 1)], [], (z_w (z_w (z_w (z_w M5 18 0 10 r5) 26 0 (((3 * (M5.1 18 0 15)) + 0).toNat) ((M5.1 25 0 0) - (M5.1 24 0 0))) 24 0 0 (M5.1 25 0 0)) 26 0 (((3 * (M5.1 18 0 15)) + 1).toNat) ((M5.1 25 0 1) - (M5.1 24 0 1))), false)) rfl h.1 ?_
            replace h := h.2
            refine zT.it 6 (t := (138, [some (zR 18 0), some (zI 1), some (zI 1)], [zI 1, zR 25 0, zI 1, zR 24 0], (z_w (z_w (z_w (z_w M5 18 0 10 r5) 26 0 (((3 * (M5.1 18 0 15)) + 0).toNat) ((M5.1 25 0 0) - (M5.1 24 0 0))) 24 0 0 (M5.1 25 0 0)) 26 0 (((3 * (M5.1 18 0 15)) + 1).toNat) ((M5.1 25 0 1) - (M5.1 24 0 1))), false)) rfl ?_
            refine zT.chk (t := (139, [some (zR 18 0), some (zI 1), some (zI 1)], [zI (M5.1 25 0 1), zI 1, zR 24 0], (z_w (z_w (z_w (z_w M5 18 0 10 r5) 26 0 (((3 * (M5.1 18 0 15)) + 0).toNat) ((M5.1 25 0 0) - (M5.1 24 0 0))) 24 0 0 (M5.1 25 0 0)) 26 0 (((3 * (M5.1 18 0 15)) + 1).toNat) ((M5.1 25 0 1) - (M5.1 24 0 1))), false)) rfl (by first | decide | (dsimp only; decide)) ?_
            refine zT.chk (t := (140, [some (zR 18 0), some (zI 1), some (zI 1)], [], (z_w (z_w (z_w (z_w (z_w M5 18 0 10 r5) 26 0 (((3 * (M5.1 18 0 15)) + 0).toNat) ((M5.1 25 0 0) - (M5.1 24 0 0))) 24 0 0 (M5.1 25 0 0)) 26 0 (((3 * (M5.1 18 0 15)) + 1).toNat) ((M5.1 25 0 1) - (M5.1 24 0 1))) 24 0 1 (M5.1 25 0 1)), false)) rfl (by first | decide | (dsimp only; decide)) ?_
            refine zT.it 4 (t := (99, [some (zR 18 0), some (zI 1), some (zI 2)], [zI 3, zI 2], (z_w (z_w (z_w (z_w (z_w M5 18 0 10 r5) 26 0 (((3 * (M5.1 18 0 15)) + 0).toNat) ((M5.1 25 0 0) - (M5.1 24 0 0))) 24 0 0 (M5.1 25 0 0)) 26 0 (((3 * (M5.1 18 0 15)) + 1).toNat) ((M5.1 25 0 1) - (M5.1 24 0 1))) 24 0 1 (M5.1 25 0 1)), false)) rfl ?_
            refine zT.br (g := zr 2 ∧ zr 3) (p := 3 ≤ 2) (t := (146, [some (zR 18 0), some (zI 1), some (zI 2)], [], (z_w (z_w (z_w (z_w (z_w M5 18 0 10 r5) 26 0 (((3 * (M5.1 18 0 15)) + 0).toNat) ((M5.1 25 0 0) - (M5.1 24 0 0))) 24 0 0 (M5.1 25 0 0)) 26 0 (((3 * (M5.1 18 0 15)) + 1).toNat) ((M5.1 25 0 1) - (M5.1 24 0 1))) 24 0 1 (M5.1 25 0 1)), false)) (u := (102, [some (zR 18 0), some (zI 1), some (zI 2)], [], (z_w (z_w (z_w (z_w (z_w M5 18 0 10 r5) 26 0 (((3 * (M5.1 18 0 15)) + 0).toNat) ((M5.1 25 0 0) - (M5.1 24 0 0))) 24 0 0 (M5.1 25 0 0)) 26 0 (((3 * (M5.1 18 0 15)) + 1).toNat) ((M5.1 25 0 1) - (M5.1 24 0 1))) 24 0 1 (M5.1 25 0 1)), false)) rfl (by decide) (fun c => absurd c (by decide)) (fun c => ?_)
            refine zT.it 11 (t := (119, [some (zR 18 0), some (zI 1), some (zI 2)], [zI 2, zR 25 0, zI ((3 * (M5.1 18 0 15)) + 2), zR 26 0], (z_w (z_w (z_w (z_w (z_w M5 18 0 10 r5) 26 0 (((3 * (M5.1 18 0 15)) + 0).toNat) ((M5.1 25 0 0) - (M5.1 24 0 0))) 24 0 0 (M5.1 25 0 0)) 26 0 (((3 * (M5.1 18 0 15)) + 1).toNat) ((M5.1 25 0 1) - (M5.1 24 0 1))) 24 0 1 (M5.1 25 0 1)), false)) rfl ?_
            refine zT.chk (t := (120, [some (zR 18 0), some (zI 1), some (zI 2)], [zI (M5.1 25 0 2), zI ((3 * (M5.1 18 0 15)) + 2), zR 26 0], (z_w (z_w (z_w (z_w (z_w M5 18 0 10 r5) 26 0 (((3 * (M5.1 18 0 15)) + 0).toNat) ((M5.1 25 0 0) - (M5.1 24 0 0))) 24 0 0 (M5.1 25 0 0)) 26 0 (((3 * (M5.1 18 0 15)) + 1).toNat) ((M5.1 25 0 1) - (M5.1 24 0 1))) 24 0 1 (M5.1 25 0 1)), false)) rfl (by first | decide | (dsimp only; decide)) ?_
            refine zT.it 3 (t := (125, [some (zR 18 0), some (zI 1), some (zI 2)], [zI 2, zR 24 0, zI (M5.1 25 0 2), zI ((3 * (M5.1 18 0 15)) + 2), zR 26 0], (z_w (z_w (z_w (z_w (z_w M5 18 0 10 r5) 26 0 (((3 * (M5.1 18 0 15)) + 0).toNat) ((M5.1 25 0 0) - (M5.1 24 0 0))) 24 0 0 (M5.1 25 0 0)) 26 0 (((3 * (M5.1 18 0 15)) + 1).toNat) ((M5.1 25 0 1) - (M5.1 24 0 1))) 24 0 1 (M5.1 25 0 1)), false)) rfl ?_
            refine zT.chk (t := (126, [some (zR 18 0), some (zI 1), some (zI 2)], [zI (M5.1 24 0 2), zI (M5.1 25 0 2), zI ((3 * (M5.1 18 0 15)) + 2), zR 26 0], (z_w (z_w (z_w (z_w (z_w M5 18 0 10 r5) 26 0 (((3 * (M5.1 18 0 15)) + 0).toNat) ((M5.1 25 0 0) - (M5.1 24 0 0))) 24 0 0 (M5.1 25 0 0)) 26 0 (((3 * (M5.1 18 0 15)) + 1).toNat) ((M5.1 25 0 1) - (M5.1 24 0 1))) 24 0 1 (M5.1 25 0 1)), false)) rfl (by first | decide | (dsimp only; decide)) ?_
            refine zT.it 1 (t := (127, [some (zR 18 0), some (zI 1), some (zI 2)], [zI ((M5.1 25 0 2) - (M5.1 24 0 2)), zI ((3 * (M5.1 18 0 15)) + 2), zR 26 0], (z_w (z_w (z_w (z_w (z_w M5 18 0 10 r5) 26 0 (((3 * (M5.1 18 0 15)) + 0).toNat) ((M5.1 25 0 0) - (M5.1 24 0 0))) 24 0 0 (M5.1 25 0 0)) 26 0 (((3 * (M5.1 18 0 15)) + 1).toNat) ((M5.1 25 0 1) - (M5.1 24 0 1))) 24 0 1 (M5.1 25 0 1)), false)) rfl ?_
            refine zT.chk (p := z_wi ((3 * (M5.1 18 0 15)) + 2) 27) (t := (128, [some (zR 18 0), some (zI 1), some (zI 2)], [], (z_w (z_w (z_w (z_w (z_w (z_w M5 18 0 10 r5) 26 0 (((3 * (M5.1 18 0 15)) + 0).toNat) ((M5.1 25 0 0) - (M5.1 24 0 0))) 24 0 0 (M5.1 25 0 0)) 26 0 (((3 * (M5.1 18 0 15)) + 1).toNat) ((M5.1 25 0 1) - (M5.1 24 0 1))) 24 0 1 (M5.1 25 0 1)) 26 0 (((3 * (M5.1 18 0 15)) + 2).toNat) ((M5.1 25 0 2) - (M5.1 24 0 2))), false)) rfl h.1 ?_
            replace h := h.2
            refine zT.it 6 (t := (138, [some (zR 18 0), some (zI 1), some (zI 2)], [zI 2, zR 25 0, zI 2, zR 24 0], (z_w (z_w (z_w (z_w (z_w (z_w M5 18 0 10 r5) 26 0 (((3 * (M5.1 18 0 15)) + 0).toNat) ((M5.1 25 0 0) - (M5.1 24 0 0))) 24 0 0 (M5.1 25 0 0)) 26 0 (((3 * (M5.1 18 0 15)) + 1).toNat) ((M5.1 25 0 1) - (M5.1 24 0 1))) 24 0 1 (M5.1 25 0 1)) 26 0 (((3 * (M5.1 18 0 15)) + 2).toNat) ((M5.1 25 0 2) - (M5.1 24 0 2))), false)) rfl ?_
            refine zT.chk (t := (139, [some (zR 18 0), some (zI 1), some (zI 2)], [zI (M5.1 25 0 2), zI 2, zR 24 0], (z_w (z_w (z_w (z_w (z_w (z_w M5 18 0 10 r5) 26 0 (((3 * (M5.1 18 0 15)) + 0).toNat) ((M5.1 25 0 0) - (M5.1 24 0 0))) 24 0 0 (M5.1 25 0 0)) 26 0 (((3 * (M5.1 18 0 15)) + 1).toNat) ((M5.1 25 0 1) - (M5.1 24 0 1))) 24 0 1 (M5.1 25 0 1)) 26 0 (((3 * (M5.1 18 0 15)) + 2).toNat) ((M5.1 25 0 2) - (M5.1 24 0 2))), false)) rfl (by first | decide | (dsimp only; decide)) ?_
            refine zT.chk (t := (140, [some (zR 18 0), some (zI 1), some (zI 2)], [], (z_w (z_w (z_w (z_w (z_w (z_w (z_w M5 18 0 10 r5) 26 0 (((3 * (M5.1 18 0 15)) + 0).toNat) ((M5.1 25 0 0) - (M5.1 24 0 0))) 24 0 0 (M5.1 25 0 0)) 26 0 (((3 * (M5.1 18 0 15)) + 1).toNat) ((M5.1 25 0 1) - (M5.1 24 0 1))) 24 0 1 (M5.1 25 0 1)) 26 0 (((3 * (M5.1 18 0 15)) + 2).toNat) ((M5.1 25 0 2) - (M5.1 24 0 2))) 24 0 2 (M5.1 25 0 2)), false)) rfl (by first | decide | (dsimp only; decide)) ?_
            refine zT.it 4 (t := (99, [some (zR 18 0), some (zI 1), some (zI 3)], [zI 3, zI 3], (z_w (z_w (z_w (z_w (z_w (z_w (z_w M5 18 0 10 r5) 26 0 (((3 * (M5.1 18 0 15)) + 0).toNat) ((M5.1 25 0 0) - (M5.1 24 0 0))) 24 0 0 (M5.1 25 0 0)) 26 0 (((3 * (M5.1 18 0 15)) + 1).toNat) ((M5.1 25 0 1) - (M5.1 24 0 1))) 24 0 1 (M5.1 25 0 1)) 26 0 (((3 * (M5.1 18 0 15)) + 2).toNat) ((M5.1 25 0 2) - (M5.1 24 0 2))) 24 0 2 (M5.1 25 0 2)), false)) rfl ?_
            refine zT.br (g := zr 3 ∧ zr 3) (p := 3 ≤ 3) (t := (146, [some (zR 18 0), some (zI 1), some (zI 3)], [], (z_w (z_w (z_w (z_w (z_w (z_w (z_w M5 18 0 10 r5) 26 0 (((3 * (M5.1 18 0 15)) + 0).toNat) ((M5.1 25 0 0) - (M5.1 24 0 0))) 24 0 0 (M5.1 25 0 0)) 26 0 (((3 * (M5.1 18 0 15)) + 1).toNat) ((M5.1 25 0 1) - (M5.1 24 0 1))) 24 0 1 (M5.1 25 0 1)) 26 0 (((3 * (M5.1 18 0 15)) + 2).toNat) ((M5.1 25 0 2) - (M5.1 24 0 2))) 24 0 2 (M5.1 25 0 2)), false)) (u := (102, [some (zR 18 0), some (zI 1), some (zI 3)], [], (z_w (z_w (z_w (z_w (z_w (z_w (z_w M5 18 0 10 r5) 26 0 (((3 * (M5.1 18 0 15)) + 0).toNat) ((M5.1 25 0 0) - (M5.1 24 0 0))) 24 0 0 (M5.1 25 0 0)) 26 0 (((3 * (M5.1 18 0 15)) + 1).toNat) ((M5.1 25 0 1) - (M5.1 24 0 1))) 24 0 1 (M5.1 25 0 1)) 26 0 (((3 * (M5.1 18 0 15)) + 2).toNat) ((M5.1 25 0 2) - (M5.1 24 0 2))) 24 0 2 (M5.1 25 0 2)), false)) rfl (by decide) (fun c => ?_) (fun c => absurd (by decide) c)
            refine zT.it 6 (t := (158, [some (zR 18 0), some (zI 1), some (zI 3)], [zI r5, zI (M5.1 18 0 15), zR 27 0], (z_w (z_w (z_w (z_w (z_w (z_w (z_w M5 18 0 10 r5) 26 0 (((3 * (M5.1 18 0 15)) + 0).toNat) ((M5.1 25 0 0) - (M5.1 24 0 0))) 24 0 0 (M5.1 25 0 0)) 26 0 (((3 * (M5.1 18 0 15)) + 1).toNat) ((M5.1 25 0 1) - (M5.1 24 0 1))) 24 0 1 (M5.1 25 0 1)) 26 0 (((3 * (M5.1 18 0 15)) + 2).toNat) ((M5.1 25 0 2) - (M5.1 24 0 2))) 24 0 2 (M5.1 25 0 2)), false)) rfl ?_
            refine zT.chk (p := z_wi (M5.1 18 0 15) 9) (t := (159, [some (zR 18 0), some (zI 1), some (zI 3)], [], (z_w (z_w (z_w (z_w (z_w (z_w (z_w (z_w M5 18 0 10 r5) 26 0 (((3 * (M5.1 18 0 15)) + 0).toNat) ((M5.1 25 0 0) - (M5.1 24 0 0))) 24 0 0 (M5.1 25 0 0)) 26 0 (((3 * (M5.1 18 0 15)) + 1).toNat) ((M5.1 25 0 1) - (M5.1 24 0 1))) 24 0 1 (M5.1 25 0 1)) 26 0 (((3 * (M5.1 18 0 15)) + 2).toNat) ((M5.1 25 0 2) - (M5.1 24 0 2))) 24 0 2 (M5.1 25 0 2)) 27 0 ((M5.1 18 0 15).toNat) r5), false)) rfl h.1 ?_
            replace h := h.2
            refine zT.it 7 (t := (170, [some (zR 18 0), some (zI 1), some (zI 3)], [zI 0], (z_w (z_w (z_w (z_w (z_w (z_w (z_w (z_w (z_w M5 18 0 10 r5) 26 0 (((3 * (M5.1 18 0 15)) + 0).toNat) ((M5.1 25 0 0) - (M5.1 24 0 0))) 24 0 0 (M5.1 25 0 0)) 26 0 (((3 * (M5.1 18 0 15)) + 1).toNat) ((M5.1 25 0 1) - (M5.1 24 0 1))) 24 0 1 (M5.1 25 0 1)) 26 0 (((3 * (M5.1 18 0 15)) + 2).toNat) ((M5.1 25 0 2) - (M5.1 24 0 2))) 24 0 2 (M5.1 25 0 2)) 27 0 ((M5.1 18 0 15).toNat) r5) 18 0 15 ((M5.1 18 0 15) + 1)), false)) rfl ?_
            exact zT.ret (v := some (zI 0)) rfl (by first | exact trivial | decide) h
          · replace h := h.2.2 (Decidable.not_not.1 c)
            refine zT.it 1 (t := (76, [some (zR 18 0), some (zI 1), none], [zI (-2)], M1, cl1)) rfl ?_
            exact zT.ret (v := some (zI (-2))) rfl (by first | exact trivial | decide) h
  · replace h := h.2.2 (Decidable.not_not.1 c)
    refine zT.it 1 (t := (9, [some (zR 18 0), none, none], [zI (-3)], M1, cl1)) rfl ?_
    exact zT.ret (v := some (zI (-3))) rfl (by first | exact trivial | decide) h
theorem g62_0 {M : zM} {Q : zQ} (h : (zr (M.1 21 0 1) ∧ zr 90) ∧ (((M.1 21 0 1) = 90 → (zr (M.1 21 0 1) ∧ zr 91) ∧ ((¬ (M.1 21 0 1) = 91 → Q (.inl (some (zI 0))) (z_w M 18 0 9 0) false 0) ∧ ((M.1 21 0 1) = 91 → Q (.inl (some (zI 0))) (z_w M 18 0 9 1) false 0))) ∧ (¬ ((M.1 21 0 1) = 90) → (zr (M.1 21 0 1) ∧ zr 91) ∧ ((¬ (M.1 21 0 1) = 91 → (zr (M.1 21 0 1) ∧ zr 92) ∧ ((¬ (M.1 21 0 1) = 92 → (zr (M.1 21 0 1) ∧ zr 4) ∧ ((¬ (M.1 21 0 1) = 4 → zF 61 [zR 18 0] M (fun v M1 => ∃ r1 : Int, v = some (zI r1) ∧ ∀ cl1 : Bool, Q (.inl (some (zI r1))) M1 cl1 0)) ∧ ((M.1 21 0 1) = 4 → (zr (M.1 18 0 15) ∧ zr 8) ∧ ((¬ (M.1 18 0 15) = 8 → (z_wi (M.1 18 0 15) 9) ∧ ((z_wi (M.1 18 0 15) 9) ∧ (Q (.inl (some (zI 0))) (z_w (z_w (z_w M 27 0 ((M.1 18 0 15).toNat) 0) 28 0 ((M.1 18 0 15).toNat) (M.1 21 0 2)) 18 0 15 ((M.1 18 0 15) + 1)) false 0))) ∧ ((M.1 18 0 15) = 8 → Q (.inl (some (zI (-2)))) M true 0))))) ∧ ((M.1 21 0 1) = 92 → zT 62 (45, [some (zR 18 0), some (zI (M.1 21 0 1)), some (zI 0)], [], M, true) Q))) ∧ ((M.1 21 0 1) = 91 → (zr (M.1 21 0 1) ∧ zr 91) ∧ ((¬ (M.1 21 0 1) = 91 → Q (.inl (some (zI 0))) (z_w M 18 0 9 0) false 0) ∧ ((M.1 21 0 1) = 91 → Q (.inl (some (zI 0))) (z_w M 18 0 9 1) false 0))))))) : zT 62 (0, [some (zR 18 0), none, none], [], M, true) Q := by
  refine zT.it 3 (t := (5, [some (zR 18 0), none, none], [zI 1, zR 21 0], M, true)) rfl ?_
  refine zT.chk (t := (6, [some (zR 18 0), none, none], [zI (M.1 21 0 1)], M, true)) rfl (by first | decide | (dsimp only; decide)) ?_
  refine zT.it 3 (t := (10, [some (zR 18 0), some (zI (M.1 21 0 1)), none], [zI 90, zI (M.1 21 0 1)], M, true)) rfl ?_
  refine zT.br (g := zr (M.1 21 0 1) ∧ zr 90) (p := (M.1 21 0 1) = 90) (t := (19, [some (zR 18 0), some (zI (M.1 21 0 1)), none], [], M, true)) (u := (13, [some (zR 18 0), some (zI (M.1 21 0 1)), none], [], M, true)) rfl h.1 (fun c => ?_) (fun c => ?_)
  · replace h := h.2.1 c
    refine zT.it 3 (t := (23, [some (zR 18 0), some (zI (M.1 21 0 1)), none], [zI 91, zI (M.1 21 0 1), zR 18 0], M, true)) rfl ?_
    refine zT.br (g := zr (M.1 21 0 1) ∧ zr 91) (p := ¬ (M.1 21 0 1) = 91) (t := (30, [some (zR 18 0), some (zI (M.1 21 0 1)), none], [zR 18 0], M, true)) (u := (26, [some (zR 18 0), some (zI (M.1 21 0 1)), none], [zR 18 0], M, true)) rfl h.1 (fun c => ?_) (fun c => ?_)
    · replace h := h.2.1 c
      refine zT.it 1 (t := (31, [some (zR 18 0), some (zI (M.1 21 0 1)), none], [zI 0, zR 18 0], M, true)) rfl ?_
      refine zT.chk (t := (34, [some (zR 18 0), some (zI (M.1 21 0 1)), none], [], (z_w M 18 0 9 0), false)) rfl (by first | decide | (dsimp only; decide)) ?_
      refine zT.it 2 (t := (162, [some (zR 18 0), some (zI (M.1 21 0 1)), none], [zI 0], (z_w M 18 0 9 0), false)) rfl ?_
      exact zT.ret (v := some (zI 0)) rfl (by first | exact trivial | decide) h
    · replace h := h.2.2 (Decidable.not_not.1 c)
      refine zT.it 2 (t := (31, [some (zR 18 0), some (zI (M.1 21 0 1)), none], [zI 1, zR 18 0], M, true)) rfl ?_
      refine zT.chk (t := (34, [some (zR 18 0), some (zI (M.1 21 0 1)), none], [], (z_w M 18 0 9 1), false)) rfl (by first | decide | (dsimp only; decide)) ?_
      refine zT.it 2 (t := (162, [some (zR 18 0), some (zI (M.1 21 0 1)), none], [zI 0], (z_w M 18 0 9 1), false)) rfl ?_
      exact zT.ret (v := some (zI 0)) rfl (by first | exact trivial | decide) h
  · replace h := h.2.2 c
    refine zT.it 2 (t := (16, [some (zR 18 0), some (zI (M.1 21 0 1)), none], [zI 91, zI (M.1 21 0 1)], M, true)) rfl ?_
    refine zT.br (g := zr (M.1 21 0 1) ∧ zr 91) (p := ¬ (M.1 21 0 1) = 91) (t := (37, [some (zR 18 0), some (zI (M.1 21 0 1)), none], [], M, true)) (u := (19, [some (zR 18 0), some (zI (M.1 21 0 1)), none], [], M, true)) rfl h.1 (fun c => ?_) (fun c => ?_)
    · replace h := h.2.1 c
      refine zT.it 2 (t := (40, [some (zR 18 0), some (zI (M.1 21 0 1)), none], [zI 92, zI (M.1 21 0 1)], M, true)) rfl ?_
      refine zT.br (g := zr (M.1 21 0 1) ∧ zr 92) (p := ¬ (M.1 21 0 1) = 92) (t := (101, [some (zR 18 0), some (zI (M.1 21 0 1)), none], [], M, true)) (u := (43, [some (zR 18 0), some (zI (M.1 21 0 1)), none], [], M, true)) rfl h.1 (fun c => ?_) (fun c => ?_)
      · replace h := h.2.1 c
        refine zT.it 2 (t := (103, [some (zR 18 0), some (zI (M.1 21 0 1)), none], [zI 4, zI (M.1 21 0 1)], M, true)) rfl ?_
        refine zT.br (g := zr (M.1 21 0 1) ∧ zr 4) (p := ¬ (M.1 21 0 1) = 4) (t := (156, [some (zR 18 0), some (zI (M.1 21 0 1)), none], [], M, true)) (u := (106, [some (zR 18 0), some (zI (M.1 21 0 1)), none], [], M, true)) rfl h.1 (fun c => ?_) (fun c => ?_)
        · replace h := h.2.1 c
          refine zT.it 1 (t := (157, [some (zR 18 0), some (zI (M.1 21 0 1)), none], [zR 18 0], M, true)) rfl ?_
          refine zT.call (m := 61) (as := [zR 18 0]) (M := M) (L := [some (zR 18 0), some (zI (M.1 21 0 1)), none]) (st := []) (pn := 160) (cl := true) rfl ?_
          refine zF.mono h (fun v M1 h cl1 => ?_)
          obtain ⟨r1, e1, h⟩ := h; subst e1; replace h := h cl1
          show zT 62 (160, [some (zR 18 0), some (zI (M.1 21 0 1)), none], [zI r1], M1, cl1) _
          exact zT.ret (v := some (zI r1)) rfl (by first | exact trivial | decide) h
        · replace h := h.2.2 (Decidable.not_not.1 c)
          refine zT.it 3 (t := (112, [some (zR 18 0), some (zI (M.1 21 0 1)), none], [zI 8, zI (M.1 18 0 15)], M, true)) rfl ?_
          refine zT.br (g := zr (M.1 18 0 15) ∧ zr 8) (p := ¬ (M.1 18 0 15) = 8) (t := (118, [some (zR 18 0), some (zI (M.1 21 0 1)), none], [], M, true)) (u := (115, [some (zR 18 0), some (zI (M.1 21 0 1)), none], [], M, true)) rfl h.1 (fun c => ?_) (fun c => ?_)
          · replace h := h.2.1 c
            refine zT.it 5 (t := (127, [some (zR 18 0), some (zI (M.1 21 0 1)), none], [zI 0, zI (M.1 18 0 15), zR 27 0], M, true)) rfl ?_
            refine zT.chk (p := z_wi (M.1 18 0 15) 9) (t := (128, [some (zR 18 0), some (zI (M.1 21 0 1)), none], [], (z_w M 27 0 ((M.1 18 0 15).toNat) 0), false)) rfl h.1 ?_
            replace h := h.2
            refine zT.it 7 (t := (141, [some (zR 18 0), some (zI (M.1 21 0 1)), none], [zI 2, zR 21 0, zI (M.1 18 0 15), zR 28 0], (z_w M 27 0 ((M.1 18 0 15).toNat) 0), false)) rfl ?_
            refine zT.chk (t := (142, [some (zR 18 0), some (zI (M.1 21 0 1)), none], [zI (M.1 21 0 2), zI (M.1 18 0 15), zR 28 0], (z_w M 27 0 ((M.1 18 0 15).toNat) 0), false)) rfl (by first | decide | (dsimp only; decide)) ?_
            refine zT.chk (p := z_wi (M.1 18 0 15) 9) (t := (143, [some (zR 18 0), some (zI (M.1 21 0 1)), none], [], (z_w (z_w M 27 0 ((M.1 18 0 15).toNat) 0) 28 0 ((M.1 18 0 15).toNat) (M.1 21 0 2)), false)) rfl h.1 ?_
            replace h := h.2
            refine zT.it 8 (t := (162, [some (zR 18 0), some (zI (M.1 21 0 1)), none], [zI 0], (z_w (z_w (z_w M 27 0 ((M.1 18 0 15).toNat) 0) 28 0 ((M.1 18 0 15).toNat) (M.1 21 0 2)) 18 0 15 ((M.1 18 0 15) + 1)), false)) rfl ?_
            exact zT.ret (v := some (zI 0)) rfl (by first | exact trivial | decide) h
          · replace h := h.2.2 (Decidable.not_not.1 c)
            refine zT.it 1 (t := (117, [some (zR 18 0), some (zI (M.1 21 0 1)), none], [zI (-2)], M, true)) rfl ?_
            exact zT.ret (v := some (zI (-2))) rfl (by first | exact trivial | decide) h
      · replace h := h.2.2 (Decidable.not_not.1 c)
        refine zT.it 2 (t := (45, [some (zR 18 0), some (zI (M.1 21 0 1)), some (zI 0)], [], M, true)) rfl ?_
        exact h
    · replace h := h.2.2 (Decidable.not_not.1 c)
      refine zT.it 3 (t := (23, [some (zR 18 0), some (zI (M.1 21 0 1)), none], [zI 91, zI (M.1 21 0 1), zR 18 0], M, true)) rfl ?_
      refine zT.br (g := zr (M.1 21 0 1) ∧ zr 91) (p := ¬ (M.1 21 0 1) = 91) (t := (30, [some (zR 18 0), some (zI (M.1 21 0 1)), none], [zR 18 0], M, true)) (u := (26, [some (zR 18 0), some (zI (M.1 21 0 1)), none], [zR 18 0], M, true)) rfl h.1 (fun c => ?_) (fun c => ?_)
      · replace h := h.2.1 c
        refine zT.it 1 (t := (31, [some (zR 18 0), some (zI (M.1 21 0 1)), none], [zI 0, zR 18 0], M, true)) rfl ?_
        refine zT.chk (t := (34, [some (zR 18 0), some (zI (M.1 21 0 1)), none], [], (z_w M 18 0 9 0), false)) rfl (by first | decide | (dsimp only; decide)) ?_
        refine zT.it 2 (t := (162, [some (zR 18 0), some (zI (M.1 21 0 1)), none], [zI 0], (z_w M 18 0 9 0), false)) rfl ?_
        exact zT.ret (v := some (zI 0)) rfl (by first | exact trivial | decide) h
      · replace h := h.2.2 (Decidable.not_not.1 c)
        refine zT.it 2 (t := (31, [some (zR 18 0), some (zI (M.1 21 0 1)), none], [zI 1, zR 18 0], M, true)) rfl ?_
        refine zT.chk (t := (34, [some (zR 18 0), some (zI (M.1 21 0 1)), none], [], (z_w M 18 0 9 1), false)) rfl (by first | decide | (dsimp only; decide)) ?_
        refine zT.it 2 (t := (162, [some (zR 18 0), some (zI (M.1 21 0 1)), none], [zI 0], (z_w M 18 0 9 1), false)) rfl ?_
        exact zT.ret (v := some (zI 0)) rfl (by first | exact trivial | decide) h
theorem g62_45a0 {x1 : Int} {M : zM} {cl : Bool} {Q : zQ} (h : zF 58 [zI 0] M (fun v M2 => ∃ r2 : Int, v = some (zI r2) ∧ ∀ cl2 : Bool, zF 55 [zR 18 0, zI r2] M2 (fun v M3 => ∃ r3 : Int, v = some (zI r3) ∧ ∀ cl3 : Bool, (zr r3) ∧ ((¬ r3 = 0 → zF 58 [zI 0] M3 (fun v M4 => ∃ r4 : Int, v = some (zI r4) ∧ ∀ cl4 : Bool, zF 56 [zR 18 0, zI r4, zI 0] M4 (fun v M5 => ∃ r5 : Int, v = some (zI r5) ∧ ∀ cl5 : Bool, zT 62 (45, [some (zR 18 0), some (zI x1), some (zI 1)], [], (z_w M5 22 0 0 ((M3.1 24 0 0) - r5)), false) Q))) ∧ (r3 = 0 → zT 62 (45, [some (zR 18 0), some (zI x1), some (zI 1)], [], (z_w M3 22 0 0 (M3.1 22 0 0)), false) Q))))) : zT 62 (45, [some (zR 18 0), some (zI x1), some (zI 0)], [], M, cl) Q := by
  refine zT.it 2 (t := (47, [some (zR 18 0), some (zI x1), some (zI 0)], [zI 3, zI 0], M, cl)) rfl ?_
  refine zT.br (g := zr 0 ∧ zr 3) (p := 3 ≤ 0) (t := (98, [some (zR 18 0), some (zI x1), some (zI 0)], [], M, cl)) (u := (50, [some (zR 18 0), some (zI x1), some (zI 0)], [], M, cl)) rfl (by decide) (fun c => absurd c (by decide)) (fun c => ?_)
  refine zT.it 5 (t := (57, [some (zR 18 0), some (zI x1), some (zI 0)], [zI 0, zR 18 0, zI 0, zR 22 0], M, cl)) rfl ?_
  refine zT.call (m := 58) (as := [zI 0]) (M := M) (L := [some (zR 18 0), some (zI x1), some (zI 0)]) (st := [zR 18 0, zI 0, zR 22 0]) (pn := 60) (cl := cl) rfl ?_
  refine zF.mono h (fun v M2 h cl2 => ?_)
  obtain ⟨r2, e2, h⟩ := h; subst e2; replace h := h cl2
  show zT 62 (60, [some (zR 18 0), some (zI x1), some (zI 0)], [zI r2, zR 18 0, zI 0, zR 22 0], M2, cl2) _
  refine zT.call (m := 55) (as := [zR 18 0, zI r2]) (M := M2) (L := [some (zR 18 0), some (zI x1), some (zI 0)]) (st := [zI 0, zR 22 0]) (pn := 63) (cl := cl2) rfl ?_
  refine zF.mono h (fun v M3 h cl3 => ?_)
  obtain ⟨r3, e3, h⟩ := h; subst e3; replace h := h cl3
  show zT 62 (63, [some (zR 18 0), some (zI x1), some (zI 0)], [zI r3, zI 0, zR 22 0], M3, cl3) _
  refine zT.br (g := zr r3) (p := ¬ r3 = 0) (t := (75, [some (zR 18 0), some (zI x1), some (zI 0)], [zI 0, zR 22 0], M3, cl3)) (u := (66, [some (zR 18 0), some (zI x1), some (zI 0)], [zI 0, zR 22 0], M3, cl3)) rfl h.1 (fun c => ?_) (fun c => ?_)
  · replace h := h.2.1 c
    refine zT.it 3 (t := (80, [some (zR 18 0), some (zI x1), some (zI 0)], [zI 0, zR 24 0, zI 0, zR 22 0], M3, cl3)) rfl ?_
    refine zT.chk (t := (81, [some (zR 18 0), some (zI x1), some (zI 0)], [zI (M3.1 24 0 0), zI 0, zR 22 0], M3, cl3)) rfl (by first | decide | (dsimp only; decide)) ?_
    refine zT.it 2 (t := (83, [some (zR 18 0), some (zI x1), some (zI 0)], [zI 0, zR 18 0, zI (M3.1 24 0 0), zI 0, zR 22 0], M3, cl3)) rfl ?_
    refine zT.call (m := 58) (as := [zI 0]) (M := M3) (L := [some (zR 18 0), some (zI x1), some (zI 0)]) (st := [zR 18 0, zI (M3.1 24 0 0), zI 0, zR 22 0]) (pn := 86) (cl := cl3) rfl ?_
    refine zF.mono h (fun v M4 h cl4 => ?_)
    obtain ⟨r4, e4, h⟩ := h; subst e4; replace h := h cl4
    show zT 62 (86, [some (zR 18 0), some (zI x1), some (zI 0)], [zI r4, zR 18 0, zI (M3.1 24 0 0), zI 0, zR 22 0], M4, cl4) _
    refine zT.it 1 (t := (87, [some (zR 18 0), some (zI x1), some (zI 0)], [zI 0, zI r4, zR 18 0, zI (M3.1 24 0 0), zI 0, zR 22 0], M4, cl4)) rfl ?_
    refine zT.call (m := 56) (as := [zR 18 0, zI r4, zI 0]) (M := M4) (L := [some (zR 18 0), some (zI x1), some (zI 0)]) (st := [zI (M3.1 24 0 0), zI 0, zR 22 0]) (pn := 90) (cl := cl4) rfl ?_
    refine zF.mono h (fun v M5 h cl5 => ?_)
    obtain ⟨r5, e5, h⟩ := h; subst e5; replace h := h cl5
    show zT 62 (90, [some (zR 18 0), some (zI x1), some (zI 0)], [zI r5, zI (M3.1 24 0 0), zI 0, zR 22 0], M5, cl5) _
    refine zT.it 1 (t := (91, [some (zR 18 0), some (zI x1), some (zI 0)], [zI ((M3.1 24 0 0) - r5), zI 0, zR 22 0], M5, cl5)) rfl ?_
    refine zT.chk (t := (92, [some (zR 18 0), some (zI x1), some (zI 0)], [], (z_w M5 22 0 0 ((M3.1 24 0 0) - r5)), false)) rfl (by first | decide | (dsimp only; decide)) ?_
    refine zT.it 2 (t := (45, [some (zR 18 0), some (zI x1), some (zI 1)], [], (z_w M5 22 0 0 ((M3.1 24 0 0) - r5)), false)) rfl ?_
    exact h
  · replace h := h.2.2 (Decidable.not_not.1 c)
    refine zT.it 3 (t := (71, [some (zR 18 0), some (zI x1), some (zI 0)], [zI 0, zR 22 0, zI 0, zR 22 0], M3, cl3)) rfl ?_
    refine zT.chk (t := (72, [some (zR 18 0), some (zI x1), some (zI 0)], [zI (M3.1 22 0 0), zI 0, zR 22 0], M3, cl3)) rfl (by first | decide | (dsimp only; decide)) ?_
    refine zT.it 1 (t := (91, [some (zR 18 0), some (zI x1), some (zI 0)], [zI (M3.1 22 0 0), zI 0, zR 22 0], M3, cl3)) rfl ?_
    refine zT.chk (t := (92, [some (zR 18 0), some (zI x1), some (zI 0)], [], (z_w M3 22 0 0 (M3.1 22 0 0)), false)) rfl (by first | decide | (dsimp only; decide)) ?_
    refine zT.it 2 (t := (45, [some (zR 18 0), some (zI x1), some (zI 1)], [], (z_w M3 22 0 0 (M3.1 22 0 0)), false)) rfl ?_
    exact h
theorem g62_45a1 {x1 : Int} {M : zM} {cl : Bool} {Q : zQ} (h : zF 58 [zI 1] M (fun v M6 => ∃ r6 : Int, v = some (zI r6) ∧ ∀ cl6 : Bool, zF 55 [zR 18 0, zI r6] M6 (fun v M7 => ∃ r7 : Int, v = some (zI r7) ∧ ∀ cl7 : Bool, (zr r7) ∧ ((¬ r7 = 0 → zF 58 [zI 1] M7 (fun v M8 => ∃ r8 : Int, v = some (zI r8) ∧ ∀ cl8 : Bool, zF 56 [zR 18 0, zI r8, zI 0] M8 (fun v M9 => ∃ r9 : Int, v = some (zI r9) ∧ ∀ cl9 : Bool, zT 62 (45, [some (zR 18 0), some (zI x1), some (zI 2)], [], (z_w M9 22 0 1 ((M7.1 24 0 1) - r9)), false) Q))) ∧ (r7 = 0 → zT 62 (45, [some (zR 18 0), some (zI x1), some (zI 2)], [], (z_w M7 22 0 1 (M7.1 22 0 1)), false) Q))))) : zT 62 (45, [some (zR 18 0), some (zI x1), some (zI 1)], [], M, cl) Q := by
  refine zT.it 2 (t := (47, [some (zR 18 0), some (zI x1), some (zI 1)], [zI 3, zI 1], M, cl)) rfl ?_
  refine zT.br (g := zr 1 ∧ zr 3) (p := 3 ≤ 1) (t := (98, [some (zR 18 0), some (zI x1), some (zI 1)], [], M, cl)) (u := (50, [some (zR 18 0), some (zI x1), some (zI 1)], [], M, cl)) rfl (by decide) (fun c => absurd c (by decide)) (fun c => ?_)
  refine zT.it 5 (t := (57, [some (zR 18 0), some (zI x1), some (zI 1)], [zI 1, zR 18 0, zI 1, zR 22 0], M, cl)) rfl ?_
  refine zT.call (m := 58) (as := [zI 1]) (M := M) (L := [some (zR 18 0), some (zI x1), some (zI 1)]) (st := [zR 18 0, zI 1, zR 22 0]) (pn := 60) (cl := cl) rfl ?_
  refine zF.mono h (fun v M6 h cl6 => ?_)
  obtain ⟨r6, e6, h⟩ := h; subst e6; replace h := h cl6
  show zT 62 (60, [some (zR 18 0), some (zI x1), some (zI 1)], [zI r6, zR 18 0, zI 1, zR 22 0], M6, cl6) _
  refine zT.call (m := 55) (as := [zR 18 0, zI r6]) (M := M6) (L := [some (zR 18 0), some (zI x1), some (zI 1)]) (st := [zI 1, zR 22 0]) (pn := 63) (cl := cl6) rfl ?_
  refine zF.mono h (fun v M7 h cl7 => ?_)
  obtain ⟨r7, e7, h⟩ := h; subst e7; replace h := h cl7
  show zT 62 (63, [some (zR 18 0), some (zI x1), some (zI 1)], [zI r7, zI 1, zR 22 0], M7, cl7) _
  refine zT.br (g := zr r7) (p := ¬ r7 = 0) (t := (75, [some (zR 18 0), some (zI x1), some (zI 1)], [zI 1, zR 22 0], M7, cl7)) (u := (66, [some (zR 18 0), some (zI x1), some (zI 1)], [zI 1, zR 22 0], M7, cl7)) rfl h.1 (fun c => ?_) (fun c => ?_)
  · replace h := h.2.1 c
    refine zT.it 3 (t := (80, [some (zR 18 0), some (zI x1), some (zI 1)], [zI 1, zR 24 0, zI 1, zR 22 0], M7, cl7)) rfl ?_
    refine zT.chk (t := (81, [some (zR 18 0), some (zI x1), some (zI 1)], [zI (M7.1 24 0 1), zI 1, zR 22 0], M7, cl7)) rfl (by first | decide | (dsimp only; decide)) ?_
    refine zT.it 2 (t := (83, [some (zR 18 0), some (zI x1), some (zI 1)], [zI 1, zR 18 0, zI (M7.1 24 0 1), zI 1, zR 22 0], M7, cl7)) rfl ?_
    refine zT.call (m := 58) (as := [zI 1]) (M := M7) (L := [some (zR 18 0), some (zI x1), some (zI 1)]) (st := [zR 18 0, zI (M7.1 24 0 1), zI 1, zR 22 0]) (pn := 86) (cl := cl7) rfl ?_
    refine zF.mono h (fun v M8 h cl8 => ?_)
    obtain ⟨r8, e8, h⟩ := h; subst e8; replace h := h cl8
    show zT 62 (86, [some (zR 18 0), some (zI x1), some (zI 1)], [zI r8, zR 18 0, zI (M7.1 24 0 1), zI 1, zR 22 0], M8, cl8) _
    refine zT.it 1 (t := (87, [some (zR 18 0), some (zI x1), some (zI 1)], [zI 0, zI r8, zR 18 0, zI (M7.1 24 0 1), zI 1, zR 22 0], M8, cl8)) rfl ?_
    refine zT.call (m := 56) (as := [zR 18 0, zI r8, zI 0]) (M := M8) (L := [some (zR 18 0), some (zI x1), some (zI 1)]) (st := [zI (M7.1 24 0 1), zI 1, zR 22 0]) (pn := 90) (cl := cl8) rfl ?_
    refine zF.mono h (fun v M9 h cl9 => ?_)
    obtain ⟨r9, e9, h⟩ := h; subst e9; replace h := h cl9
    show zT 62 (90, [some (zR 18 0), some (zI x1), some (zI 1)], [zI r9, zI (M7.1 24 0 1), zI 1, zR 22 0], M9, cl9) _
    refine zT.it 1 (t := (91, [some (zR 18 0), some (zI x1), some (zI 1)], [zI ((M7.1 24 0 1) - r9), zI 1, zR 22 0], M9, cl9)) rfl ?_
    refine zT.chk (t := (92, [some (zR 18 0), some (zI x1), some (zI 1)], [], (z_w M9 22 0 1 ((M7.1 24 0 1) - r9)), false)) rfl (by first | decide | (dsimp only; decide)) ?_
    refine zT.it 2 (t := (45, [some (zR 18 0), some (zI x1), some (zI 2)], [], (z_w M9 22 0 1 ((M7.1 24 0 1) - r9)), false)) rfl ?_
    exact h
  · replace h := h.2.2 (Decidable.not_not.1 c)
    refine zT.it 3 (t := (71, [some (zR 18 0), some (zI x1), some (zI 1)], [zI 1, zR 22 0, zI 1, zR 22 0], M7, cl7)) rfl ?_
    refine zT.chk (t := (72, [some (zR 18 0), some (zI x1), some (zI 1)], [zI (M7.1 22 0 1), zI 1, zR 22 0], M7, cl7)) rfl (by first | decide | (dsimp only; decide)) ?_
    refine zT.it 1 (t := (91, [some (zR 18 0), some (zI x1), some (zI 1)], [zI (M7.1 22 0 1), zI 1, zR 22 0], M7, cl7)) rfl ?_
    refine zT.chk (t := (92, [some (zR 18 0), some (zI x1), some (zI 1)], [], (z_w M7 22 0 1 (M7.1 22 0 1)), false)) rfl (by first | decide | (dsimp only; decide)) ?_
    refine zT.it 2 (t := (45, [some (zR 18 0), some (zI x1), some (zI 2)], [], (z_w M7 22 0 1 (M7.1 22 0 1)), false)) rfl ?_
    exact h
theorem g62_45a2 {x1 : Int} {M : zM} {cl : Bool} {Q : zQ} (h : zF 58 [zI 2] M (fun v M10 => ∃ r10 : Int, v = some (zI r10) ∧ ∀ cl10 : Bool, zF 55 [zR 18 0, zI r10] M10 (fun v M11 => ∃ r11 : Int, v = some (zI r11) ∧ ∀ cl11 : Bool, (zr r11) ∧ ((¬ r11 = 0 → zF 58 [zI 2] M11 (fun v M12 => ∃ r12 : Int, v = some (zI r12) ∧ ∀ cl12 : Bool, zF 56 [zR 18 0, zI r12, zI 0] M12 (fun v M13 => ∃ r13 : Int, v = some (zI r13) ∧ ∀ cl13 : Bool, zT 62 (45, [some (zR 18 0), some (zI x1), some (zI 3)], [], (z_w M13 22 0 2 ((M11.1 24 0 2) - r13)), false) Q))) ∧ (r11 = 0 → zT 62 (45, [some (zR 18 0), some (zI x1), some (zI 3)], [], (z_w M11 22 0 2 (M11.1 22 0 2)), false) Q))))) : zT 62 (45, [some (zR 18 0), some (zI x1), some (zI 2)], [], M, cl) Q := by
  refine zT.it 2 (t := (47, [some (zR 18 0), some (zI x1), some (zI 2)], [zI 3, zI 2], M, cl)) rfl ?_
  refine zT.br (g := zr 2 ∧ zr 3) (p := 3 ≤ 2) (t := (98, [some (zR 18 0), some (zI x1), some (zI 2)], [], M, cl)) (u := (50, [some (zR 18 0), some (zI x1), some (zI 2)], [], M, cl)) rfl (by decide) (fun c => absurd c (by decide)) (fun c => ?_)
  refine zT.it 5 (t := (57, [some (zR 18 0), some (zI x1), some (zI 2)], [zI 2, zR 18 0, zI 2, zR 22 0], M, cl)) rfl ?_
  refine zT.call (m := 58) (as := [zI 2]) (M := M) (L := [some (zR 18 0), some (zI x1), some (zI 2)]) (st := [zR 18 0, zI 2, zR 22 0]) (pn := 60) (cl := cl) rfl ?_
  refine zF.mono h (fun v M10 h cl10 => ?_)
  obtain ⟨r10, e10, h⟩ := h; subst e10; replace h := h cl10
  show zT 62 (60, [some (zR 18 0), some (zI x1), some (zI 2)], [zI r10, zR 18 0, zI 2, zR 22 0], M10, cl10) _
  refine zT.call (m := 55) (as := [zR 18 0, zI r10]) (M := M10) (L := [some (zR 18 0), some (zI x1), some (zI 2)]) (st := [zI 2, zR 22 0]) (pn := 63) (cl := cl10) rfl ?_
  refine zF.mono h (fun v M11 h cl11 => ?_)
  obtain ⟨r11, e11, h⟩ := h; subst e11; replace h := h cl11
  show zT 62 (63, [some (zR 18 0), some (zI x1), some (zI 2)], [zI r11, zI 2, zR 22 0], M11, cl11) _
  refine zT.br (g := zr r11) (p := ¬ r11 = 0) (t := (75, [some (zR 18 0), some (zI x1), some (zI 2)], [zI 2, zR 22 0], M11, cl11)) (u := (66, [some (zR 18 0), some (zI x1), some (zI 2)], [zI 2, zR 22 0], M11, cl11)) rfl h.1 (fun c => ?_) (fun c => ?_)
  · replace h := h.2.1 c
    refine zT.it 3 (t := (80, [some (zR 18 0), some (zI x1), some (zI 2)], [zI 2, zR 24 0, zI 2, zR 22 0], M11, cl11)) rfl ?_
    refine zT.chk (t := (81, [some (zR 18 0), some (zI x1), some (zI 2)], [zI (M11.1 24 0 2), zI 2, zR 22 0], M11, cl11)) rfl (by first | decide | (dsimp only; decide)) ?_
    refine zT.it 2 (t := (83, [some (zR 18 0), some (zI x1), some (zI 2)], [zI 2, zR 18 0, zI (M11.1 24 0 2), zI 2, zR 22 0], M11, cl11)) rfl ?_
    refine zT.call (m := 58) (as := [zI 2]) (M := M11) (L := [some (zR 18 0), some (zI x1), some (zI 2)]) (st := [zR 18 0, zI (M11.1 24 0 2), zI 2, zR 22 0]) (pn := 86) (cl := cl11) rfl ?_
    refine zF.mono h (fun v M12 h cl12 => ?_)
    obtain ⟨r12, e12, h⟩ := h; subst e12; replace h := h cl12
    show zT 62 (86, [some (zR 18 0), some (zI x1), some (zI 2)], [zI r12, zR 18 0, zI (M11.1 24 0 2), zI 2, zR 22 0], M12, cl12) _
    refine zT.it 1 (t := (87, [some (zR 18 0), some (zI x1), some (zI 2)], [zI 0, zI r12, zR 18 0, zI (M11.1 24 0 2), zI 2, zR 22 0], M12, cl12)) rfl ?_
    refine zT.call (m := 56) (as := [zR 18 0, zI r12, zI 0]) (M := M12) (L := [some (zR 18 0), some (zI x1), some (zI 2)]) (st := [zI (M11.1 24 0 2), zI 2, zR 22 0]) (pn := 90) (cl := cl12) rfl ?_
    refine zF.mono h (fun v M13 h cl13 => ?_)
    obtain ⟨r13, e13, h⟩ := h; subst e13; replace h := h cl13
    show zT 62 (90, [some (zR 18 0), some (zI x1), some (zI 2)], [zI r13, zI (M11.1 24 0 2), zI 2, zR 22 0], M13, cl13) _
    refine zT.it 1 (t := (91, [some (zR 18 0), some (zI x1), some (zI 2)], [zI ((M11.1 24 0 2) - r13), zI 2, zR 22 0], M13, cl13)) rfl ?_
    refine zT.chk (t := (92, [some (zR 18 0), some (zI x1), some (zI 2)], [], (z_w M13 22 0 2 ((M11.1 24 0 2) - r13)), false)) rfl (by first | decide | (dsimp only; decide)) ?_
    refine zT.it 2 (t := (45, [some (zR 18 0), some (zI x1), some (zI 3)], [], (z_w M13 22 0 2 ((M11.1 24 0 2) - r13)), false)) rfl ?_
    exact h
  · replace h := h.2.2 (Decidable.not_not.1 c)
    refine zT.it 3 (t := (71, [some (zR 18 0), some (zI x1), some (zI 2)], [zI 2, zR 22 0, zI 2, zR 22 0], M11, cl11)) rfl ?_
    refine zT.chk (t := (72, [some (zR 18 0), some (zI x1), some (zI 2)], [zI (M11.1 22 0 2), zI 2, zR 22 0], M11, cl11)) rfl (by first | decide | (dsimp only; decide)) ?_
    refine zT.it 1 (t := (91, [some (zR 18 0), some (zI x1), some (zI 2)], [zI (M11.1 22 0 2), zI 2, zR 22 0], M11, cl11)) rfl ?_
    refine zT.chk (t := (92, [some (zR 18 0), some (zI x1), some (zI 2)], [], (z_w M11 22 0 2 (M11.1 22 0 2)), false)) rfl (by first | decide | (dsimp only; decide)) ?_
    refine zT.it 2 (t := (45, [some (zR 18 0), some (zI x1), some (zI 3)], [], (z_w M11 22 0 2 (M11.1 22 0 2)), false)) rfl ?_
    exact h
theorem g62_45a3 {x1 : Int} {M : zM} {cl : Bool} {Q : zQ} (h : Q (.inl (some (zI 0))) M cl 0) : zT 62 (45, [some (zR 18 0), some (zI x1), some (zI 3)], [], M, cl) Q := by
  refine zT.it 2 (t := (47, [some (zR 18 0), some (zI x1), some (zI 3)], [zI 3, zI 3], M, cl)) rfl ?_
  refine zT.br (g := zr 3 ∧ zr 3) (p := 3 ≤ 3) (t := (98, [some (zR 18 0), some (zI x1), some (zI 3)], [], M, cl)) (u := (50, [some (zR 18 0), some (zI x1), some (zI 3)], [], M, cl)) rfl (by decide) (fun c => ?_) (fun c => absurd (by decide) c)
  refine zT.it 2 (t := (162, [some (zR 18 0), some (zI x1), some (zI 3)], [zI 0], M, cl)) rfl ?_
  exact zT.ret (v := some (zI 0)) rfl (by first | exact trivial | decide) h
theorem g63_0 {M : zM} {Q : zQ} (h : zF 50 [zR 18 0] M (fun v M1 => ∃ r1 : Int, v = some (zI r1) ∧ ∀ cl1 : Bool, (zr r1) ∧ ((¬ r1 = 0 → zF 54 [zR 18 0] M1 (fun v M2 => ∃ r2 : Int, v = some (zI r2) ∧ ∀ cl2 : Bool, (zr r2) ∧ ((r2 = 0 → Q (.inl (some (zI (-1)))) (z_w M2 18 0 2 0) false 0) ∧ (¬ (r2 = 0) → (zr (M2.1 21 0 0) ∧ zr (M2.1 18 0 8)) ∧ ((¬ (M2.1 21 0 0) = (M2.1 18 0 8) → Q (.inl (some (zI (-1)))) (z_w M2 18 0 2 0) false 0) ∧ ((M2.1 21 0 0) = (M2.1 18 0 8) → zF 57 [zR 18 0] (z_w M2 18 0 2 0) (fun v M3 => ∃ r3 : Int, v = some (zI r3) ∧ ∀ cl3 : Bool, (zr r3) ∧ ((r3 = 0 → Q (.inl (some (zI (-3)))) (z_w M3 18 0 8 ((M3.1 18 0 8) + 1)) false 0) ∧ (¬ (r3 = 0) → zF 62 [zR 18 0] M3 (fun v M4 => ∃ r4 : Int, v = some (zI r4) ∧ ∀ cl4 : Bool, (zr r4 ∧ zr (-2)) ∧ ((¬ r4 = (-2) → (zr r4) ∧ ((0 ≤ r4 → Q (.inl (some (zI (((M4.1 18 0 8) + 1) - 1)))) (z_w M4 18 0 8 ((M4.1 18 0 8) + 1)) false 0) ∧ (¬ (0 ≤ r4) → Q (.inl (some (zI r4))) (z_w M4 18 0 8 ((M4.1 18 0 8) + 1)) false 0))) ∧ (r4 = (-2) → (zr r4) ∧ ((0 ≤ r4 → Q (.inl (some (zI (((M4.1 18 0 8) + 0) - 1)))) (z_w M4 18 0 8 ((M4.1 18 0 8) + 0)) false 0) ∧ (¬ (0 ≤ r4) → Q (.inl (some (zI r4))) (z_w M4 18 0 8 ((M4.1 18 0 8) + 0)) false 0)))))))))))))) ∧ (r1 = 0 → Q (.inl (some (zI 0))) M1 cl1 0)))) : zT 63 (0, [some (zR 18 0), none, none], [], M, true) Q := by
  refine zT.it 1 (t := (1, [some (zR 18 0), none, none], [zR 18 0], M, true)) rfl ?_
  refine zT.call (m := 50) (as := [zR 18 0]) (M := M) (L := [some (zR 18 0), none, none]) (st := []) (pn := 4) (cl := true) rfl ?_
  refine zF.mono h (fun v M1 h cl1 => ?_)
  obtain ⟨r1, e1, h⟩ := h; subst e1; replace h := h cl1
  show zT 63 (4, [some (zR 18 0), none, none], [zI r1], M1, cl1) _
  refine zT.br (g := zr r1) (p := ¬ r1 = 0) (t := (9, [some (zR 18 0), none, none], [], M1, cl1)) (u := (7, [some (zR 18 0), none, none], [], M1, cl1)) rfl h.1 (fun c => ?_) (fun c => ?_)
  · replace h := h.2.1 c
    refine zT.it 1 (t := (10, [some (zR 18 0), none, none], [zR 18 0], M1, cl1)) rfl ?_
    refine zT.call (m := 54) (as := [zR 18 0]) (M := M1) (L := [some (zR 18 0), none, none]) (st := []) (pn := 13) (cl := cl1) rfl ?_
    refine zF.mono h (fun v M2 h cl2 => ?_)
    obtain ⟨r2, e2, h⟩ := h; subst e2; replace h := h cl2
    show zT 63 (13, [some (zR 18 0), none, none], [zI r2], M2, cl2) _
    refine zT.br (g := zr r2) (p := r2 = 0) (t := (33, [some (zR 18 0), none, none], [], M2, cl2)) (u := (16, [some (zR 18 0), none, none], [], M2, cl2)) rfl h.1 (fun c => ?_) (fun c => ?_)
    · replace h := h.2.1 c
      refine zT.it 6 (t := (41, [some (zR 18 0), some (zI 0), none], [zI 0], (z_w M2 18 0 2 0), false)) rfl ?_
      refine zT.br (g := zr 0) (p := ¬ 0 = 0) (t := (46, [some (zR 18 0), some (zI 0), none], [], (z_w M2 18 0 2 0), false)) (u := (44, [some (zR 18 0), some (zI 0), none], [], (z_w M2 18 0 2 0), false)) rfl (by decide) (fun c => absurd c (by decide)) (fun c => ?_)
      refine zT.it 1 (t := (45, [some (zR 18 0), some (zI 0), none], [zI (-1)], (z_w M2 18 0 2 0), false)) rfl ?_
      exact zT.ret (v := some (zI (-1))) rfl (by first | exact trivial | decide) h
    · replace h := h.2.2 c
      refine zT.it 3 (t := (21, [some (zR 18 0), none, none], [zI 0, zR 21 0], M2, cl2)) rfl ?_
      refine zT.chk (t := (22, [some (zR 18 0), none, none], [zI (M2.1 21 0 0)], M2, cl2)) rfl (by first | decide | (dsimp only; decide)) ?_
      refine zT.it 2 (t := (26, [some (zR 18 0), none, none], [zI (M2.1 18 0 8), zI (M2.1 21 0 0)], M2, cl2)) rfl ?_
      refine zT.br (g := zr (M2.1 21 0 0) ∧ zr (M2.1 18 0 8)) (p := ¬ (M2.1 21 0 0) = (M2.1 18 0 8)) (t := (33, [some (zR 18 0), none, none], [], M2, cl2)) (u := (29, [some (zR 18 0), none, none], [], M2, cl2)) rfl h.1 (fun c => ?_) (fun c => ?_)
      · replace h := h.2.1 c
        refine zT.it 6 (t := (41, [some (zR 18 0), some (zI 0), none], [zI 0], (z_w M2 18 0 2 0), false)) rfl ?_
        refine zT.br (g := zr 0) (p := ¬ 0 = 0) (t := (46, [some (zR 18 0), some (zI 0), none], [], (z_w M2 18 0 2 0), false)) (u := (44, [some (zR 18 0), some (zI 0), none], [], (z_w M2 18 0 2 0), false)) rfl (by decide) (fun c => absurd c (by decide)) (fun c => ?_)
        refine zT.it 1 (t := (45, [some (zR 18 0), some (zI 0), none], [zI (-1)], (z_w M2 18 0 2 0), false)) rfl ?_
        exact zT.ret (v := some (zI (-1))) rfl (by first | exact trivial | decide) h
      · replace h := h.2.2 (Decidable.not_not.1 c)
        refine zT.it 7 (t := (41, [some (zR 18 0), some (zI 1), none], [zI 1], (z_w M2 18 0 2 0), false)) rfl ?_
        refine zT.br (g := zr 1) (p := ¬ 1 = 0) (t := (46, [some (zR 18 0), some (zI 1), none], [], (z_w M2 18 0 2 0), false)) (u := (44, [some (zR 18 0), some (zI 1), none], [], (z_w M2 18 0 2 0), false)) rfl (by decide) (fun c => ?_) (fun c => absurd (by decide) c)
        refine zT.it 1 (t := (47, [some (zR 18 0), some (zI 1), none], [zR 18 0], (z_w M2 18 0 2 0), false)) rfl ?_
        refine zT.call (m := 57) (as := [zR 18 0]) (M := (z_w M2 18 0 2 0)) (L := [some (zR 18 0), some (zI 1), none]) (st := []) (pn := 50) (cl := false) rfl ?_
        refine zF.mono h (fun v M3 h cl3 => ?_)
        obtain ⟨r3, e3, h⟩ := h; subst e3; replace h := h cl3
        show zT 63 (50, [some (zR 18 0), some (zI 1), none], [zI r3], M3, cl3) _
        refine zT.br (g := zr r3) (p := r3 = 0) (t := (60, [some (zR 18 0), some (zI 1), none], [], M3, cl3)) (u := (53, [some (zR 18 0), some (zI 1), none], [], M3, cl3)) rfl h.1 (fun c => ?_) (fun c => ?_)
        · replace h := h.2.1 c
          refine zT.it 7 (t := (71, [some (zR 18 0), some (zI 1), some (zI (-3))], [zI (-2), zI (-3), zI (M3.1 18 0 8), zR 18 0], M3, cl3)) rfl ?_
          refine zT.br (g := zr (-3) ∧ zr (-2)) (p := ¬ (-3) = (-2)) (t := (78, [some (zR 18 0), some (zI 1), some (zI (-3))], [zI (M3.1 18 0 8), zR 18 0], M3, cl3)) (u := (74, [some (zR 18 0), some (zI 1), some (zI (-3))], [zI (M3.1 18 0 8), zR 18 0], M3, cl3)) rfl (by decide) (fun c => ?_) (fun c => absurd (by decide) c)
          refine zT.it 4 (t := (84, [some (zR 18 0), some (zI 1), some (zI (-3))], [zI (-3)], (z_w M3 18 0 8 ((M3.1 18 0 8) + 1)), false)) rfl ?_
          refine zT.br (g := zr (-3)) (p := 0 ≤ (-3)) (t := (91, [some (zR 18 0), some (zI 1), some (zI (-3))], [], (z_w M3 18 0 8 ((M3.1 18 0 8) + 1)), false)) (u := (87, [some (zR 18 0), some (zI 1), some (zI (-3))], [], (z_w M3 18 0 8 ((M3.1 18 0 8) + 1)), false)) rfl (by decide) (fun c => absurd c (by decide)) (fun c => ?_)
          refine zT.it 2 (t := (97, [some (zR 18 0), some (zI 1), some (zI (-3))], [zI (-3)], (z_w M3 18 0 8 ((M3.1 18 0 8) + 1)), false)) rfl ?_
          exact zT.ret (v := some (zI (-3))) rfl (by first | exact trivial | decide) h
        · replace h := h.2.2 c
          refine zT.it 1 (t := (54, [some (zR 18 0), some (zI 1), none], [zR 18 0], M3, cl3)) rfl ?_
          refine zT.call (m := 62) (as := [zR 18 0]) (M := M3) (L := [some (zR 18 0), some (zI 1), none]) (st := []) (pn := 57) (cl := cl3) rfl ?_
          refine zF.mono h (fun v M4 h cl4 => ?_)
          obtain ⟨r4, e4, h⟩ := h; subst e4; replace h := h cl4
          show zT 63 (57, [some (zR 18 0), some (zI 1), none], [zI r4], M4, cl4) _
          refine zT.it 7 (t := (71, [some (zR 18 0), some (zI 1), some (zI r4)], [zI (-2), zI r4, zI (M4.1 18 0 8), zR 18 0], M4, cl4)) rfl ?_
          refine zT.br (g := zr r4 ∧ zr (-2)) (p := ¬ r4 = (-2)) (t := (78, [some (zR 18 0), some (zI 1), some (zI r4)], [zI (M4.1 18 0 8), zR 18 0], M4, cl4)) (u := (74, [some (zR 18 0), some (zI 1), some (zI r4)], [zI (M4.1 18 0 8), zR 18 0], M4, cl4)) rfl h.1 (fun c => ?_) (fun c => ?_)
          · replace h := h.2.1 c
            refine zT.it 4 (t := (84, [some (zR 18 0), some (zI 1), some (zI r4)], [zI r4], (z_w M4 18 0 8 ((M4.1 18 0 8) + 1)), false)) rfl ?_
            refine zT.br (g := zr r4) (p := 0 ≤ r4) (t := (91, [some (zR 18 0), some (zI 1), some (zI r4)], [], (z_w M4 18 0 8 ((M4.1 18 0 8) + 1)), false)) (u := (87, [some (zR 18 0), some (zI 1), some (zI r4)], [], (z_w M4 18 0 8 ((M4.1 18 0 8) + 1)), false)) rfl h.1 (fun c => ?_) (fun c => ?_)
            · replace h := h.2.1 c
              refine zT.it 4 (t := (97, [some (zR 18 0), some (zI 1), some (zI r4)], [zI (((M4.1 18 0 8) + 1) - 1)], (z_w M4 18 0 8 ((M4.1 18 0 8) + 1)), false)) rfl ?_
              exact zT.ret (v := some (zI (((M4.1 18 0 8) + 1) - 1))) rfl (by first | exact trivial | decide) h
            · replace h := h.2.2 c
              refine zT.it 2 (t := (97, [some (zR 18 0), some (zI 1), some (zI r4)], [zI r4], (z_w M4 18 0 8 ((M4.1 18 0 8) + 1)), false)) rfl ?_
              exact zT.ret (v := some (zI r4)) rfl (by first | exact trivial | decide) h
          · replace h := h.2.2 (Decidable.not_not.1 c)
            refine zT.it 5 (t := (84, [some (zR 18 0), some (zI 1), some (zI r4)], [zI r4], (z_w M4 18 0 8 ((M4.1 18 0 8) + 0)), false)) rfl ?_
            refine zT.br (g := zr r4) (p := 0 ≤ r4) (t := (91, [some (zR 18 0), some (zI 1), some (zI r4)], [], (z_w M4 18 0 8 ((M4.1 18 0 8) + 0)), false)) (u := (87, [some (zR 18 0), some (zI 1), some (zI r4)], [], (z_w M4 18 0 8 ((M4.1 18 0 8) + 0)), false)) rfl h.1 (fun c => ?_) (fun c => ?_)
            · replace h := h.2.1 c
              refine zT.it 4 (t := (97, [some (zR 18 0), some (zI 1), some (zI r4)], [zI (((M4.1 18 0 8) + 0) - 1)], (z_w M4 18 0 8 ((M4.1 18 0 8) + 0)), false)) rfl ?_
              exact zT.ret (v := some (zI (((M4.1 18 0 8) + 0) - 1))) rfl (by first | exact trivial | decide) h
            · replace h := h.2.2 c
              refine zT.it 2 (t := (97, [some (zR 18 0), some (zI 1), some (zI r4)], [zI r4], (z_w M4 18 0 8 ((M4.1 18 0 8) + 0)), false)) rfl ?_
              exact zT.ret (v := some (zI r4)) rfl (by first | exact trivial | decide) h
  · replace h := h.2.2 (Decidable.not_not.1 c)
    refine zT.it 1 (t := (8, [some (zR 18 0), none, none], [zI 0], M1, cl1)) rfl ?_
    exact zT.ret (v := some (zI 0)) rfl (by first | exact trivial | decide) h
theorem g64_0 {M : zM} {Q : zQ} (h : Q (.inl (some (zI (M.1 18 0 1)))) M true 0) : zT 64 (0, [some (zR 18 0)], [], M, true) Q := by
  refine zT.it 2 (t := (4, [some (zR 18 0)], [zI (M.1 18 0 1)], M, true)) rfl ?_
  exact zT.ret (v := some (zI (M.1 18 0 1))) rfl (by first | exact trivial | decide) h
theorem g65_0 {M : zM} {Q : zQ} (h : Q (.inl (some (zI (M.1 0 0 14)))) M true 0) : zT 65 (0, [some (zR 0 0)], [], M, true) Q := by
  refine zT.it 2 (t := (4, [some (zR 0 0)], [zI (M.1 0 0 14)], M, true)) rfl ?_
  exact zT.ret (v := some (zI (M.1 0 0 14))) rfl (by first | exact trivial | decide) h
theorem g66_0 {M : zM} {Q : zQ} (h : Q (.inl (some (zI (M.1 18 0 8)))) (z_w M 18 0 1 0) false 0) : zT 66 (0, [some (zR 18 0)], [], M, true) Q := by
  refine zT.it 5 (t := (9, [some (zR 18 0)], [zI (M.1 18 0 8)], (z_w M 18 0 1 0), false)) rfl ?_
  exact zT.ret (v := some (zI (M.1 18 0 8))) rfl (by first | exact trivial | decide) h
theorem g67_0 {a1 : Int} {M : zM} {Q : zQ} (h : (zr (M.1 8 0 4)) ∧ (((M.1 8 0 4) = 0 → (zr (a1 + 1) ∧ zr (M.1 8 0 3)) ∧ (((M.1 8 0 3) ≤ (a1 + 1) → Q (.inl (some (zI 0))) M true 0) ∧ (¬ ((M.1 8 0 3) ≤ (a1 + 1)) → zF 31 [zR 8 0, zI (a1 + 1)] M (fun v M1 => ∃ r1 : Nat, v = some (zR 10 r1) ∧ ∀ cl1 : Bool, Q (.inl (some (zI (M1.1 10 r1 3)))) M1 cl1 0)))) ∧ (¬ ((M.1 8 0 4) = 0) → (zr a1) ∧ ((¬ a1 = 0 → (zr (a1 + 1) ∧ zr (M.1 8 0 3)) ∧ (((M.1 8 0 3) ≤ (a1 + 1) → Q (.inl (some (zI 0))) M true 0) ∧ (¬ ((M.1 8 0 3) ≤ (a1 + 1)) → zF 31 [zR 8 0, zI (a1 + 1)] M (fun v M2 => ∃ r2 : Nat, v = some (zR 10 r2) ∧ ∀ cl2 : Bool, Q (.inl (some (zI (M2.1 10 r2 3)))) M2 cl2 0)))) ∧ (a1 = 0 → zF 31 [zR 8 0, zI 0] M (fun v M3 => ∃ r3 : Nat, v = some (zR 10 r3) ∧ ∀ cl3 : Bool, Q (.inl (some (zI (M3.1 10 r3 4)))) M3 cl3 0)))))) : zT 67 (0, [some (zR 8 0), some (zI a1)], [], M, true) Q := by
  refine zT.it 2 (t := (4, [some (zR 8 0), some (zI a1)], [zI (M.1 8 0 4)], M, true)) rfl ?_
  refine zT.br (g := zr (M.1 8 0 4)) (p := (M.1 8 0 4) = 0) (t := (20, [some (zR 8 0), some (zI a1)], [], M, true)) (u := (7, [some (zR 8 0), some (zI a1)], [], M, true)) rfl h.1 (fun c => ?_) (fun c => ?_)
  · replace h := h.2.1 c
    refine zT.it 5 (t := (27, [some (zR 8 0), some (zI a1)], [zI (M.1 8 0 3), zI (a1 + 1)], M, true)) rfl ?_
    refine zT.br (g := zr (a1 + 1) ∧ zr (M.1 8 0 3)) (p := (M.1 8 0 3) ≤ (a1 + 1)) (t := (43, [some (zR 8 0), some (zI a1)], [], M, true)) (u := (30, [some (zR 8 0), some (zI a1)], [], M, true)) rfl h.1 (fun c => ?_) (fun c => ?_)
    · replace h := h.2.1 c
      refine zT.it 1 (t := (44, [some (zR 8 0), some (zI a1)], [zI 0], M, true)) rfl ?_
      exact zT.ret (v := some (zI 0)) rfl (by first | exact trivial | decide) h
    · replace h := h.2.2 c
      refine zT.it 4 (t := (34, [some (zR 8 0), some (zI a1)], [zI (a1 + 1), zR 8 0], M, true)) rfl ?_
      refine zT.call (m := 31) (as := [zR 8 0, zI (a1 + 1)]) (M := M) (L := [some (zR 8 0), some (zI a1)]) (st := []) (pn := 37) (cl := true) rfl ?_
      refine zF.mono h (fun v M1 h cl1 => ?_)
      obtain ⟨r1, e1, h⟩ := h; subst e1; replace h := h cl1
      show zT 67 (37, [some (zR 8 0), some (zI a1)], [zR 10 r1], M1, cl1) _
      refine zT.it 2 (t := (44, [some (zR 8 0), some (zI a1)], [zI (M1.1 10 r1 3)], M1, cl1)) rfl ?_
      exact zT.ret (v := some (zI (M1.1 10 r1 3))) rfl (by first | exact trivial | decide) h
  · replace h := h.2.2 c
    refine zT.it 1 (t := (8, [some (zR 8 0), some (zI a1)], [zI a1], M, true)) rfl ?_
    refine zT.br (g := zr a1) (p := ¬ a1 = 0) (t := (20, [some (zR 8 0), some (zI a1)], [], M, true)) (u := (11, [some (zR 8 0), some (zI a1)], [], M, true)) rfl h.1 (fun c => ?_) (fun c => ?_)
    · replace h := h.2.1 c
      refine zT.it 5 (t := (27, [some (zR 8 0), some (zI a1)], [zI (M.1 8 0 3), zI (a1 + 1)], M, true)) rfl ?_
      refine zT.br (g := zr (a1 + 1) ∧ zr (M.1 8 0 3)) (p := (M.1 8 0 3) ≤ (a1 + 1)) (t := (43, [some (zR 8 0), some (zI a1)], [], M, true)) (u := (30, [some (zR 8 0), some (zI a1)], [], M, true)) rfl h.1 (fun c => ?_) (fun c => ?_)
      · replace h := h.2.1 c
        refine zT.it 1 (t := (44, [some (zR 8 0), some (zI a1)], [zI 0], M, true)) rfl ?_
        exact zT.ret (v := some (zI 0)) rfl (by first | exact trivial | decide) h
      · replace h := h.2.2 c
        refine zT.it 4 (t := (34, [some (zR 8 0), some (zI a1)], [zI (a1 + 1), zR 8 0], M, true)) rfl ?_
        refine zT.call (m := 31) (as := [zR 8 0, zI (a1 + 1)]) (M := M) (L := [some (zR 8 0), some (zI a1)]) (st := []) (pn := 37) (cl := true) rfl ?_
        refine zF.mono h (fun v M2 h cl2 => ?_)
        obtain ⟨r2, e2, h⟩ := h; subst e2; replace h := h cl2
        show zT 67 (37, [some (zR 8 0), some (zI a1)], [zR 10 r2], M2, cl2) _
        refine zT.it 2 (t := (44, [some (zR 8 0), some (zI a1)], [zI (M2.1 10 r2 3)], M2, cl2)) rfl ?_
        exact zT.ret (v := some (zI (M2.1 10 r2 3))) rfl (by first | exact trivial | decide) h
    · replace h := h.2.2 (Decidable.not_not.1 c)
      refine zT.it 2 (t := (13, [some (zR 8 0), some (zI a1)], [zI 0, zR 8 0], M, true)) rfl ?_
      refine zT.call (m := 31) (as := [zR 8 0, zI 0]) (M := M) (L := [some (zR 8 0), some (zI a1)]) (st := []) (pn := 16) (cl := true) rfl ?_
      refine zF.mono h (fun v M3 h cl3 => ?_)
      obtain ⟨r3, e3, h⟩ := h; subst e3; replace h := h cl3
      show zT 67 (16, [some (zR 8 0), some (zI a1)], [zR 10 r3], M3, cl3) _
      refine zT.it 1 (t := (19, [some (zR 8 0), some (zI a1)], [zI (M3.1 10 r3 4)], M3, cl3)) rfl ?_
      exact zT.ret (v := some (zI (M3.1 10 r3 4))) rfl (by first | exact trivial | decide) h
theorem g68_0 {j0 : Nat} {M : zM} {Q : zQ} (h : (zr (M.1 10 j0 2)) ∧ ((¬ (M.1 10 j0 2) = 0 → Q (.inl (some (zI 0))) M true 0) ∧ ((M.1 10 j0 2) = 0 → Q (.inl (some (zI 1))) M true 0))) : zT 68 (0, [some (zR 10 j0)], [], M, true) Q := by
  refine zT.it 2 (t := (4, [some (zR 10 j0)], [zI (M.1 10 j0 2)], M, true)) rfl ?_
  refine zT.br (g := zr (M.1 10 j0 2)) (p := ¬ (M.1 10 j0 2) = 0) (t := (11, [some (zR 10 j0)], [], M, true)) (u := (7, [some (zR 10 j0)], [], M, true)) rfl h.1 (fun c => ?_) (fun c => ?_)
  · replace h := h.2.1 c
    refine zT.it 1 (t := (12, [some (zR 10 j0)], [zI 0], M, true)) rfl ?_
    exact zT.ret (v := some (zI 0)) rfl (by first | exact trivial | decide) h
  · replace h := h.2.2 (Decidable.not_not.1 c)
    refine zT.it 2 (t := (12, [some (zR 10 j0)], [zI 1], M, true)) rfl ?_
    exact zT.ret (v := some (zI 1)) rfl (by first | exact trivial | decide) h
theorem g69_0 {a1 : Int} {M : zM} {Q : zQ} (h : zT 69 (6, [some (zI a1), some (zI 0), some (zI 512), none], [], M, true) Q) : zT 69 (0, [some (zI a1), none, none, none], [], M, true) Q := by
  refine zT.it 4 (t := (6, [some (zI a1), some (zI 0), some (zI 512), none], [], M, true)) rfl ?_
  exact h
theorem g69_6 {x0 : Int} {x1 : Int} {x2 : Int} {u3 : Option zV} {M : zM} {cl : Bool} {Q : zQ} (h : (zr x2) ∧ ((x2 ≤ 0 → Q (.inl (some (zI x1))) M cl 0) ∧ (¬ (x2 ≤ 0) → (zr ((x1 + x2) * (x1 + x2)) ∧ zr x0) ∧ ((x0 < ((x1 + x2) * (x1 + x2)) → (z_dv x2 2) ∧ (zT 69 (6, [some (zI x0), some (zI x1), some (zI (x2 / 2)), some (zI (x1 + x2))], [], M, cl) Q)) ∧ (¬ (x0 < ((x1 + x2) * (x1 + x2))) → (z_dv x2 2) ∧ (zT 69 (6, [some (zI x0), some (zI (x1 + x2)), some (zI (x2 / 2)), some (zI (x1 + x2))], [], M, cl) Q)))))) : zT 69 (6, [some (zI x0), some (zI x1), some (zI x2), u3], [], M, cl) Q := by
  refine zT.it 1 (t := (7, [some (zI x0), some (zI x1), some (zI x2), u3], [zI x2], M, cl)) rfl ?_
  refine zT.br (g := zr x2) (p := x2 ≤ 0) (t := (30, [some (zI x0), some (zI x1), some (zI x2), u3], [], M, cl)) (u := (10, [some (zI x0), some (zI x1), some (zI x2), u3], [], M, cl)) rfl h.1 (fun c => ?_) (fun c => ?_)
  · replace h := h.2.1 c
    refine zT.it 1 (t := (31, [some (zI x0), some (zI x1), some (zI x2), u3], [zI x1], M, cl)) rfl ?_
    exact zT.ret (v := some (zI x1)) rfl (by first | exact trivial | decide) h
  · replace h := h.2.2 c
    refine zT.it 8 (t := (18, [some (zI x0), some (zI x1), some (zI x2), some (zI (x1 + x2))], [zI x0, zI ((x1 + x2) * (x1 + x2))], M, cl)) rfl ?_
    refine zT.br (g := zr ((x1 + x2) * (x1 + x2)) ∧ zr x0) (p := x0 < ((x1 + x2) * (x1 + x2))) (t := (23, [some (zI x0), some (zI x1), some (zI x2), some (zI (x1 + x2))], [], M, cl)) (u := (21, [some (zI x0), some (zI x1), some (zI x2), some (zI (x1 + x2))], [], M, cl)) rfl h.1 (fun c => ?_) (fun c => ?_)
    · replace h := h.2.1 c
      refine zT.it 2 (t := (25, [some (zI x0), some (zI x1), some (zI x2), some (zI (x1 + x2))], [zI 2, zI x2], M, cl)) rfl ?_
      refine zT.chk (p := z_dv x2 2) (t := (26, [some (zI x0), some (zI x1), some (zI x2), some (zI (x1 + x2))], [zI (x2 / 2)], M, cl)) rfl h.1 ?_
      replace h := h.2
      refine zT.it 2 (t := (6, [some (zI x0), some (zI x1), some (zI (x2 / 2)), some (zI (x1 + x2))], [], M, cl)) rfl ?_
      exact h
    · replace h := h.2.2 c
      refine zT.it 4 (t := (25, [some (zI x0), some (zI (x1 + x2)), some (zI x2), some (zI (x1 + x2))], [zI 2, zI x2], M, cl)) rfl ?_
      refine zT.chk (p := z_dv x2 2) (t := (26, [some (zI x0), some (zI (x1 + x2)), some (zI x2), some (zI (x1 + x2))], [zI (x2 / 2)], M, cl)) rfl h.1 ?_
      replace h := h.2
      refine zT.it 2 (t := (6, [some (zI x0), some (zI (x1 + x2)), some (zI (x2 / 2)), some (zI (x1 + x2))], [], M, cl)) rfl ?_
      exact h
theorem g70_0 {j0 : Nat} {a1 : Int} {a2 : Int} {M : zM} {Q : zQ} (h : zF 35 [zI ((M.1 10 j0 3) + ((2 * a2) * a1)), zI ((M.1 10 j0 4) + ((2 * a2) * (((M.1 10 j0 1) - a1) + 1)))] M (fun v M1 => ∃ r1 : Int, v = some (zI r1) ∧ ∀ cl1 : Bool, zF 35 [zI (M.1 10 j0 2), zI r1] M1 (fun v M2 => ∃ r2 : Int, v = some (zI r2) ∧ ∀ cl2 : Bool, zF 69 [zI r2] M2 (fun v M3 => ∃ r3 : Int, v = some (zI r3) ∧ ∀ cl3 : Bool, (zr r3 ∧ zr 1) ∧ ((1 ≤ r3 → (z_dv 1000 r3) ∧ (zF 32 [zI 1, zI (1000 / r3)] M3 (fun v M4 => ∃ r4 : Int, v = some (zI r4) ∧ ∀ cl4 : Bool, Q (.inl (some (zI r4))) M4 cl4 0))) ∧ (¬ (1 ≤ r3) → Q (.inl (some (zI 1000))) M3 cl3 0)))))) : zT 70 (0, [some (zR 10 j0), some (zI a1), some (zI a2), none, none, none], [], M, true) Q := by
  refine zT.it 27 (t := (37, [some (zR 10 j0), some (zI a1), some (zI a2), some (zI ((M.1 10 j0 3) + ((2 * a2) * a1))), some (zI ((M.1 10 j0 4) + ((2 * a2) * (((M.1 10 j0 1) - a1) + 1)))), none], [zI ((M.1 10 j0 4) + ((2 * a2) * (((M.1 10 j0 1) - a1) + 1))), zI ((M.1 10 j0 3) + ((2 * a2) * a1)), zI (M.1 10 j0 2)], M, true)) rfl ?_
  refine zT.call (m := 35) (as := [zI ((M.1 10 j0 3) + ((2 * a2) * a1)), zI ((M.1 10 j0 4) + ((2 * a2) * (((M.1 10 j0 1) - a1) + 1)))]) (M := M) (L := [some (zR 10 j0), some (zI a1), some (zI a2), some (zI ((M.1 10 j0 3) + ((2 * a2) * a1))), some (zI ((M.1 10 j0 4) + ((2 * a2) * (((M.1 10 j0 1) - a1) + 1)))), none]) (st := [zI (M.1 10 j0 2)]) (pn := 40) (cl := true) rfl ?_
  refine zF.mono h (fun v M1 h cl1 => ?_)
  obtain ⟨r1, e1, h⟩ := h; subst e1; replace h := h cl1
  show zT 70 (40, [some (zR 10 j0), some (zI a1), some (zI a2), some (zI ((M.1 10 j0 3) + ((2 * a2) * a1))), some (zI ((M.1 10 j0 4) + ((2 * a2) * (((M.1 10 j0 1) - a1) + 1)))), none], [zI r1, zI (M.1 10 j0 2)], M1, cl1) _
  refine zT.call (m := 35) (as := [zI (M.1 10 j0 2), zI r1]) (M := M1) (L := [some (zR 10 j0), some (zI a1), some (zI a2), some (zI ((M.1 10 j0 3) + ((2 * a2) * a1))), some (zI ((M.1 10 j0 4) + ((2 * a2) * (((M.1 10 j0 1) - a1) + 1)))), none]) (st := []) (pn := 43) (cl := cl1) rfl ?_
  refine zF.mono h (fun v M2 h cl2 => ?_)
  obtain ⟨r2, e2, h⟩ := h; subst e2; replace h := h cl2
  show zT 70 (43, [some (zR 10 j0), some (zI a1), some (zI a2), some (zI ((M.1 10 j0 3) + ((2 * a2) * a1))), some (zI ((M.1 10 j0 4) + ((2 * a2) * (((M.1 10 j0 1) - a1) + 1)))), none], [zI r2], M2, cl2) _
  refine zT.call (m := 69) (as := [zI r2]) (M := M2) (L := [some (zR 10 j0), some (zI a1), some (zI a2), some (zI ((M.1 10 j0 3) + ((2 * a2) * a1))), some (zI ((M.1 10 j0 4) + ((2 * a2) * (((M.1 10 j0 1) - a1) + 1)))), none]) (st := []) (pn := 46) (cl := cl2) rfl ?_
  refine zF.mono h (fun v M3 h cl3 => ?_)
  obtain ⟨r3, e3, h⟩ := h; subst e3; replace h := h cl3
  show zT 70 (46, [some (zR 10 j0), some (zI a1), some (zI a2), some (zI ((M.1 10 j0 3) + ((2 * a2) * a1))), some (zI ((M.1 10 j0 4) + ((2 * a2) * (((M.1 10 j0 1) - a1) + 1)))), none], [zI r3], M3, cl3) _
  refine zT.it 3 (t := (51, [some (zR 10 j0), some (zI a1), some (zI a2), some (zI ((M.1 10 j0 3) + ((2 * a2) * a1))), some (zI ((M.1 10 j0 4) + ((2 * a2) * (((M.1 10 j0 1) - a1) + 1)))), some (zI r3)], [zI 1, zI r3], M3, cl3)) rfl ?_
  refine zT.br (g := zr r3 ∧ zr 1) (p := 1 ≤ r3) (t := (60, [some (zR 10 j0), some (zI a1), some (zI a2), some (zI ((M.1 10 j0 3) + ((2 * a2) * a1))), some (zI ((M.1 10 j0 4) + ((2 * a2) * (((M.1 10 j0 1) - a1) + 1)))), some (zI r3)], [], M3, cl3)) (u := (54, [some (zR 10 j0), some (zI a1), some (zI a2), some (zI ((M.1 10 j0 3) + ((2 * a2) * a1))), some (zI ((M.1 10 j0 4) + ((2 * a2) * (((M.1 10 j0 1) - a1) + 1)))), some (zI r3)], [], M3, cl3)) rfl h.1 (fun c => ?_) (fun c => ?_)
  · replace h := h.2.1 c
    refine zT.it 3 (t := (66, [some (zR 10 j0), some (zI a1), some (zI a2), some (zI ((M.1 10 j0 3) + ((2 * a2) * a1))), some (zI ((M.1 10 j0 4) + ((2 * a2) * (((M.1 10 j0 1) - a1) + 1)))), some (zI r3)], [zI r3, zI 1000, zI 1], M3, cl3)) rfl ?_
    refine zT.chk (p := z_dv 1000 r3) (t := (67, [some (zR 10 j0), some (zI a1), some (zI a2), some (zI ((M.1 10 j0 3) + ((2 * a2) * a1))), some (zI ((M.1 10 j0 4) + ((2 * a2) * (((M.1 10 j0 1) - a1) + 1)))), some (zI r3)], [zI (1000 / r3), zI 1], M3, cl3)) rfl h.1 ?_
    replace h := h.2
    refine zT.call (m := 32) (as := [zI 1, zI (1000 / r3)]) (M := M3) (L := [some (zR 10 j0), some (zI a1), some (zI a2), some (zI ((M.1 10 j0 3) + ((2 * a2) * a1))), some (zI ((M.1 10 j0 4) + ((2 * a2) * (((M.1 10 j0 1) - a1) + 1)))), some (zI r3)]) (st := []) (pn := 70) (cl := cl3) rfl ?_
    refine zF.mono h (fun v M4 h cl4 => ?_)
    obtain ⟨r4, e4, h⟩ := h; subst e4; replace h := h cl4
    show zT 70 (70, [some (zR 10 j0), some (zI a1), some (zI a2), some (zI ((M.1 10 j0 3) + ((2 * a2) * a1))), some (zI ((M.1 10 j0 4) + ((2 * a2) * (((M.1 10 j0 1) - a1) + 1)))), some (zI r3)], [zI r4], M4, cl4) _
    exact zT.ret (v := some (zI r4)) rfl (by first | exact trivial | decide) h
  · replace h := h.2.2 c
    refine zT.it 2 (t := (70, [some (zR 10 j0), some (zI a1), some (zI a2), some (zI ((M.1 10 j0 3) + ((2 * a2) * a1))), some (zI ((M.1 10 j0 4) + ((2 * a2) * (((M.1 10 j0 1) - a1) + 1)))), some (zI r3)], [zI 1000], M3, cl3)) rfl ?_
    exact zT.ret (v := some (zI 1000)) rfl (by first | exact trivial | decide) h
theorem g71_0 {M : zM} {Q : zQ} (h : (zr (M.1 8 0 3)) ∧ ((¬ (M.1 8 0 3) = 0 → zF 31 [zR 8 0, zI 0] M (fun v M1 => ∃ r1 : Nat, v = some (zR 10 r1) ∧ ∀ cl1 : Bool, zF 67 [zR 8 0, zI 0] M1 (fun v M2 => ∃ r2 : Int, v = some (zI r2) ∧ ∀ cl2 : Bool, zF 68 [zR 10 r1] (z_w (z_w (z_w M2 10 r1 4 r2) 8 0 4 1) 8 0 5 0) (fun v M3 => ∃ r3 : Int, v = some (zI r3) ∧ ∀ cl3 : Bool, (zr r3) ∧ ((r3 = 0 → zF 70 [zR 10 r1, zI 1, zI (M3.1 8 0 1)] M3 (fun v M4 => ∃ r4 : Int, v = some (zI r4) ∧ ∀ cl4 : Bool, Q (.inl none) (z_w M4 8 0 6 r4) false 0)) ∧ (¬ (r3 = 0) → Q (.inl none) (z_w M3 8 0 6 (M3.1 10 r1 1)) false 0)))))) ∧ ((M.1 8 0 3) = 0 → Q (.inl none) M true 0))) : zT 71 (0, [some (zR 8 0), none], [], M, true) Q := by
  refine zT.it 2 (t := (4, [some (zR 8 0), none], [zI (M.1 8 0 3)], M, true)) rfl ?_
  refine zT.br (g := zr (M.1 8 0 3)) (p := ¬ (M.1 8 0 3) = 0) (t := (8, [some (zR 8 0), none], [], M, true)) (u := (7, [some (zR 8 0), none], [], M, true)) rfl h.1 (fun c => ?_) (fun c => ?_)
  · replace h := h.2.1 c
    refine zT.it 2 (t := (10, [some (zR 8 0), none], [zI 0, zR 8 0], M, true)) rfl ?_
    refine zT.call (m := 31) (as := [zR 8 0, zI 0]) (M := M) (L := [some (zR 8 0), none]) (st := []) (pn := 13) (cl := true) rfl ?_
    refine zF.mono h (fun v M1 h cl1 => ?_)
    obtain ⟨r1, e1, h⟩ := h; subst e1; replace h := h cl1
    show zT 71 (13, [some (zR 8 0), none], [zR 10 r1], M1, cl1) _
    refine zT.it 4 (t := (17, [some (zR 8 0), some (zR 10 r1)], [zI 0, zR 8 0, zR 10 r1], M1, cl1)) rfl ?_
    refine zT.call (m := 67) (as := [zR 8 0, zI 0]) (M := M1) (L := [some (zR 8 0), some (zR 10 r1)]) (st := [zR 10 r1]) (pn := 20) (cl := cl1) rfl ?_
    refine zF.mono h (fun v M2 h cl2 => ?_)
    obtain ⟨r2, e2, h⟩ := h; subst e2; replace h := h cl2
    show zT 71 (20, [some (zR 8 0), some (zR 10 r1)], [zI r2, zR 10 r1], M2, cl2) _
    refine zT.it 3 (t := (25, [some (zR 8 0), some (zR 10 r1)], [zI 1, zR 8 0], (z_w M2 10 r1 4 r2), false)) rfl ?_
    refine zT.chk (t := (28, [some (zR 8 0), some (zR 10 r1)], [], (z_w (z_w M2 10 r1 4 r2) 8 0 4 1), false)) rfl (by first | decide | (dsimp only; decide)) ?_
    refine zT.it 5 (t := (35, [some (zR 8 0), some (zR 10 r1)], [zR 10 r1, zR 8 0], (z_w (z_w (z_w M2 10 r1 4 r2) 8 0 4 1) 8 0 5 0), false)) rfl ?_
    refine zT.call (m := 68) (as := [zR 10 r1]) (M := (z_w (z_w (z_w M2 10 r1 4 r2) 8 0 4 1) 8 0 5 0)) (L := [some (zR 8 0), some (zR 10 r1)]) (st := [zR 8 0]) (pn := 38) (cl := false) rfl ?_
    refine zF.mono h (fun v M3 h cl3 => ?_)
    obtain ⟨r3, e3, h⟩ := h; subst e3; replace h := h cl3
    show zT 71 (38, [some (zR 8 0), some (zR 10 r1)], [zI r3, zR 8 0], M3, cl3) _
    refine zT.br (g := zr r3) (p := r3 = 0) (t := (48, [some (zR 8 0), some (zR 10 r1)], [zR 8 0], M3, cl3)) (u := (41, [some (zR 8 0), some (zR 10 r1)], [zR 8 0], M3, cl3)) rfl h.1 (fun c => ?_) (fun c => ?_)
    · replace h := h.2.1 c
      refine zT.it 4 (t := (54, [some (zR 8 0), some (zR 10 r1)], [zI (M3.1 8 0 1), zI 1, zR 10 r1, zR 8 0], M3, cl3)) rfl ?_
      refine zT.call (m := 70) (as := [zR 10 r1, zI 1, zI (M3.1 8 0 1)]) (M := M3) (L := [some (zR 8 0), some (zR 10 r1)]) (st := [zR 8 0]) (pn := 57) (cl := cl3) rfl ?_
      refine zF.mono h (fun v M4 h cl4 => ?_)
      obtain ⟨r4, e4, h⟩ := h; subst e4; replace h := h cl4
      show zT 71 (57, [some (zR 8 0), some (zR 10 r1)], [zI r4, zR 8 0], M4, cl4) _
      refine zT.it 1 (t := (60, [some (zR 8 0), some (zR 10 r1)], [], (z_w M4 8 0 6 r4), false)) rfl ?_
      exact zT.ret (v := none) rfl trivial h
    · replace h := h.2.2 c
      refine zT.it 4 (t := (60, [some (zR 8 0), some (zR 10 r1)], [], (z_w M3 8 0 6 (M3.1 10 r1 1)), false)) rfl ?_
      exact zT.ret (v := none) rfl trivial h
  · replace h := h.2.2 (Decidable.not_not.1 c)
    exact zT.ret (v := none) rfl trivial h
theorem g72_0 {M : zM} {Q : zQ} (h : (zr (M.1 8 0 4)) ∧ ((¬ (M.1 8 0 4) = 0 → Q (.inl none) M true 0) ∧ ((M.1 8 0 4) = 0 → (zr (M.1 0 0 11)) ∧ ((¬ (M.1 0 0 11) = 0 → Q (.inl none) M true 0) ∧ ((M.1 0 0 11) = 0 → zF 71 [zR 8 0] M (fun v M1 => v = none ∧ ∀ cl1 : Bool, Q (.inl none) M1 cl1 0)))))) : zT 72 (0, [some (zR 0 0)], [], M, true) Q := by
  refine zT.it 3 (t := (7, [some (zR 0 0)], [zI (M.1 8 0 4)], M, true)) rfl ?_
  refine zT.br (g := zr (M.1 8 0 4)) (p := ¬ (M.1 8 0 4) = 0) (t := (24, [some (zR 0 0)], [], M, true)) (u := (10, [some (zR 0 0)], [], M, true)) rfl h.1 (fun c => ?_) (fun c => ?_)
  · replace h := h.2.1 c
    exact zT.ret (v := none) rfl trivial h
  · replace h := h.2.2 (Decidable.not_not.1 c)
    refine zT.it 2 (t := (14, [some (zR 0 0)], [zI (M.1 0 0 11)], M, true)) rfl ?_
    refine zT.br (g := zr (M.1 0 0 11)) (p := ¬ (M.1 0 0 11) = 0) (t := (24, [some (zR 0 0)], [], M, true)) (u := (17, [some (zR 0 0)], [], M, true)) rfl h.1 (fun c => ?_) (fun c => ?_)
    · replace h := h.2.1 c
      exact zT.ret (v := none) rfl trivial h
    · replace h := h.2.2 (Decidable.not_not.1 c)
      refine zT.it 2 (t := (21, [some (zR 0 0)], [zR 8 0], M, true)) rfl ?_
      refine zT.call (m := 71) (as := [zR 8 0]) (M := M) (L := [some (zR 0 0)]) (st := []) (pn := 24) (cl := true) rfl ?_
      refine zF.mono h (fun v M1 h cl1 => ?_)
      obtain ⟨e1, h⟩ := h; subst e1; replace h := h cl1
      show zT 72 (24, [some (zR 0 0)], [], M1, cl1) _
      exact zT.ret (v := none) rfl trivial h
