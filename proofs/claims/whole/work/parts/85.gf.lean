-- what each piece of the program asks (written by gen/g.py out of the program itself)
theorem g73_0 {M : zM} {Q : zQ} (h : (zr ((M.1 8 0 6) - 1)) ∧ ((0 < ((M.1 8 0 6) - 1) → Q (.inl (some (zI 0))) (z_w M 8 0 6 ((M.1 8 0 6) - 1)) false 0) ∧ (¬ (0 < ((M.1 8 0 6) - 1)) → Q (.inl (some (zI 1))) (z_w M 8 0 6 ((M.1 8 0 6) - 1)) false 0))) : zT 73 (0, [some (zR 8 0)], [], M, true) Q := by
  refine zT.it 8 (t := (14, [some (zR 8 0)], [zI ((M.1 8 0 6) - 1)], (z_w M 8 0 6 ((M.1 8 0 6) - 1)), false)) rfl ?_
  refine zT.br (g := zr ((M.1 8 0 6) - 1)) (p := 0 < ((M.1 8 0 6) - 1)) (t := (21, [some (zR 8 0)], [], (z_w M 8 0 6 ((M.1 8 0 6) - 1)), false)) (u := (17, [some (zR 8 0)], [], (z_w M 8 0 6 ((M.1 8 0 6) - 1)), false)) rfl h.1 (fun c => ?_) (fun c => ?_)
  · replace h := h.2.1 c
    refine zT.it 1 (t := (22, [some (zR 8 0)], [zI 0], (z_w M 8 0 6 ((M.1 8 0 6) - 1)), false)) rfl ?_
    exact zT.ret (v := some (zI 0)) rfl (by first | exact trivial | decide) h
  · replace h := h.2.2 c
    refine zT.it 2 (t := (22, [some (zR 8 0)], [zI 1], (z_w M 8 0 6 ((M.1 8 0 6) - 1)), false)) rfl ?_
    exact zT.ret (v := some (zI 1)) rfl (by first | exact trivial | decide) h
theorem g74_0 {j0 : Nat} {a1 : Int} {a2 : Int} {M : zM} {Q : zQ} (h : (zr (M.1 10 j0 1) ∧ zr 1) ∧ ((1 ≤ (M.1 10 j0 1) → (z_wi a1 3) ∧ (zF 27 [zI (M.1 11 j0 a1.toNat)] M (fun v M1 => ∃ r1 : Int, v = some (zI r1) ∧ ∀ cl1 : Bool, (z_dv (((2 * r1) * a2) + (M1.1 10 j0 1)) (2 * (M1.1 10 j0 1))) ∧ ((z_wi a1 3) ∧ ((zr (M1.1 11 j0 a1.toNat)) ∧ ((0 ≤ (M1.1 11 j0 a1.toNat) → Q (.inl (some (zI ((((2 * r1) * a2) + (M1.1 10 j0 1)) / (2 * (M1.1 10 j0 1)))))) M1 cl1 0) ∧ (¬ (0 ≤ (M1.1 11 j0 a1.toNat)) → Q (.inl (some (zI (-((((2 * r1) * a2) + (M1.1 10 j0 1)) / (2 * (M1.1 10 j0 1))))))) M1 cl1 0))))))) ∧ (¬ (1 ≤ (M.1 10 j0 1)) → Q (.inl (some (zI 0))) M true 0))) : zT 74 (0, [some (zR 10 j0), some (zI a1), some (zI a2), none], [], M, true) Q := by
  refine zT.it 3 (t := (5, [some (zR 10 j0), some (zI a1), some (zI a2), none], [zI 1, zI (M.1 10 j0 1)], M, true)) rfl ?_
  refine zT.br (g := zr (M.1 10 j0 1) ∧ zr 1) (p := 1 ≤ (M.1 10 j0 1)) (t := (10, [some (zR 10 j0), some (zI a1), some (zI a2), none], [], M, true)) (u := (8, [some (zR 10 j0), some (zI a1), some (zI a2), none], [], M, true)) rfl h.1 (fun c => ?_) (fun c => ?_)
  · replace h := h.2.1 c
    refine zT.it 4 (t := (16, [some (zR 10 j0), some (zI a1), some (zI a2), none], [zI a1, zR 11 j0, zI 2], M, true)) rfl ?_
    refine zT.chk (p := z_wi a1 3) (t := (17, [some (zR 10 j0), some (zI a1), some (zI a2), none], [zI (M.1 11 j0 a1.toNat), zI 2], M, true)) rfl h.1 ?_
    replace h := h.2
    refine zT.call (m := 27) (as := [zI (M.1 11 j0 a1.toNat)]) (M := M) (L := [some (zR 10 j0), some (zI a1), some (zI a2), none]) (st := [zI 2]) (pn := 20) (cl := true) rfl ?_
    refine zF.mono h (fun v M1 h cl1 => ?_)
    obtain ⟨r1, e1, h⟩ := h; subst e1; replace h := h cl1
    show zT 74 (20, [some (zR 10 j0), some (zI a1), some (zI a2), none], [zI r1, zI 2], M1, cl1) _
    refine zT.it 10 (t := (34, [some (zR 10 j0), some (zI a1), some (zI a2), none], [zI (2 * (M1.1 10 j0 1)), zI (((2 * r1) * a2) + (M1.1 10 j0 1))], M1, cl1)) rfl ?_
    refine zT.chk (p := z_dv (((2 * r1) * a2) + (M1.1 10 j0 1)) (2 * (M1.1 10 j0 1))) (t := (35, [some (zR 10 j0), some (zI a1), some (zI a2), none], [zI ((((2 * r1) * a2) + (M1.1 10 j0 1)) / (2 * (M1.1 10 j0 1)))], M1, cl1)) rfl h.1 ?_
    replace h := h.2
    refine zT.it 4 (t := (41, [some (zR 10 j0), some (zI a1), some (zI a2), some (zI ((((2 * r1) * a2) + (M1.1 10 j0 1)) / (2 * (M1.1 10 j0 1))))], [zI a1, zR 11 j0], M1, cl1)) rfl ?_
    refine zT.chk (p := z_wi a1 3) (t := (42, [some (zR 10 j0), some (zI a1), some (zI a2), some (zI ((((2 * r1) * a2) + (M1.1 10 j0 1)) / (2 * (M1.1 10 j0 1))))], [zI (M1.1 11 j0 a1.toNat)], M1, cl1)) rfl h.1 ?_
    replace h := h.2
    refine zT.br (g := zr (M1.1 11 j0 a1.toNat)) (p := 0 ≤ (M1.1 11 j0 a1.toNat)) (t := (50, [some (zR 10 j0), some (zI a1), some (zI a2), some (zI ((((2 * r1) * a2) + (M1.1 10 j0 1)) / (2 * (M1.1 10 j0 1))))], [], M1, cl1)) (u := (45, [some (zR 10 j0), some (zI a1), some (zI a2), some (zI ((((2 * r1) * a2) + (M1.1 10 j0 1)) / (2 * (M1.1 10 j0 1))))], [], M1, cl1)) rfl h.1 (fun c => ?_) (fun c => ?_)
    · replace h := h.2.1 c
      refine zT.it 1 (t := (51, [some (zR 10 j0), some (zI a1), some (zI a2), some (zI ((((2 * r1) * a2) + (M1.1 10 j0 1)) / (2 * (M1.1 10 j0 1))))], [zI ((((2 * r1) * a2) + (M1.1 10 j0 1)) / (2 * (M1.1 10 j0 1)))], M1, cl1)) rfl ?_
      exact zT.ret (v := some (zI ((((2 * r1) * a2) + (M1.1 10 j0 1)) / (2 * (M1.1 10 j0 1))))) rfl (by first | exact trivial | decide) h
    · replace h := h.2.2 c
      refine zT.it 3 (t := (51, [some (zR 10 j0), some (zI a1), some (zI a2), some (zI ((((2 * r1) * a2) + (M1.1 10 j0 1)) / (2 * (M1.1 10 j0 1))))], [zI (-((((2 * r1) * a2) + (M1.1 10 j0 1)) / (2 * (M1.1 10 j0 1))))], M1, cl1)) rfl ?_
      exact zT.ret (v := some (zI (-((((2 * r1) * a2) + (M1.1 10 j0 1)) / (2 * (M1.1 10 j0 1)))))) rfl (by first | exact trivial | decide) h
  · replace h := h.2.2 c
    refine zT.it 1 (t := (9, [some (zR 10 j0), some (zI a1), some (zI a2), none], [zI 0], M, true)) rfl ?_
    exact zT.ret (v := some (zI 0)) rfl (by first | exact trivial | decide) h
theorem g75_0 {M : zM} {Q : zQ} (h : zF 31 [zR 8 0, zI 0] (z_w M 8 0 5 ((M.1 8 0 5) + 1)) (fun v M1 => ∃ r1 : Nat, v = some (zR 10 r1) ∧ ∀ cl1 : Bool, (zr ((M.1 8 0 5) + 1) ∧ zr (M1.1 10 r1 1)) ∧ (((M1.1 10 r1 1) ≤ ((M.1 8 0 5) + 1) → Q (.inl none) M1 cl1 0) ∧ (¬ ((M1.1 10 r1 1) ≤ ((M.1 8 0 5) + 1)) → zF 31 [zR 8 0, zI 0] M1 (fun v M2 => ∃ r2 : Nat, v = some (zR 10 r2) ∧ ∀ cl2 : Bool, zF 70 [zR 10 r2, zI ((M2.1 8 0 5) + 1), zI (M2.1 8 0 1)] M2 (fun v M3 => ∃ r3 : Int, v = some (zI r3) ∧ ∀ cl3 : Bool, Q (.inl none) (z_w M3 8 0 6 r3) false 0)))))) : zT 75 (0, [some (zR 8 0)], [], M, true) Q := by
  refine zT.it 10 (t := (16, [some (zR 8 0)], [zI 0, zR 8 0, zI ((M.1 8 0 5) + 1)], (z_w M 8 0 5 ((M.1 8 0 5) + 1)), false)) rfl ?_
  refine zT.call (m := 31) (as := [zR 8 0, zI 0]) (M := (z_w M 8 0 5 ((M.1 8 0 5) + 1))) (L := [some (zR 8 0)]) (st := [zI ((M.1 8 0 5) + 1)]) (pn := 19) (cl := false) rfl ?_
  refine zF.mono h (fun v M1 h cl1 => ?_)
  obtain ⟨r1, e1, h⟩ := h; subst e1; replace h := h cl1
  show zT 75 (19, [some (zR 8 0)], [zR 10 r1, zI ((M.1 8 0 5) + 1)], M1, cl1) _
  refine zT.it 1 (t := (22, [some (zR 8 0)], [zI (M1.1 10 r1 1), zI ((M.1 8 0 5) + 1)], M1, cl1)) rfl ?_
  refine zT.br (g := zr ((M.1 8 0 5) + 1) ∧ zr (M1.1 10 r1 1)) (p := (M1.1 10 r1 1) ≤ ((M.1 8 0 5) + 1)) (t := (47, [some (zR 8 0)], [], M1, cl1)) (u := (25, [some (zR 8 0)], [], M1, cl1)) rfl h.1 (fun c => ?_) (fun c => ?_)
  · replace h := h.2.1 c
    exact zT.ret (v := none) rfl trivial h
  · replace h := h.2.2 c
    refine zT.it 3 (t := (28, [some (zR 8 0)], [zI 0, zR 8 0, zR 8 0], M1, cl1)) rfl ?_
    refine zT.call (m := 31) (as := [zR 8 0, zI 0]) (M := M1) (L := [some (zR 8 0)]) (st := [zR 8 0]) (pn := 31) (cl := cl1) rfl ?_
    refine zF.mono h (fun v M2 h cl2 => ?_)
    obtain ⟨r2, e2, h⟩ := h; subst e2; replace h := h cl2
    show zT 75 (31, [some (zR 8 0)], [zR 10 r2, zR 8 0], M2, cl2) _
    refine zT.it 6 (t := (41, [some (zR 8 0)], [zI (M2.1 8 0 1), zI ((M2.1 8 0 5) + 1), zR 10 r2, zR 8 0], M2, cl2)) rfl ?_
    refine zT.call (m := 70) (as := [zR 10 r2, zI ((M2.1 8 0 5) + 1), zI (M2.1 8 0 1)]) (M := M2) (L := [some (zR 8 0)]) (st := [zR 8 0]) (pn := 44) (cl := cl2) rfl ?_
    refine zF.mono h (fun v M3 h cl3 => ?_)
    obtain ⟨r3, e3, h⟩ := h; subst e3; replace h := h cl3
    show zT 75 (44, [some (zR 8 0)], [zI r3, zR 8 0], M3, cl3) _
    refine zT.it 1 (t := (47, [some (zR 8 0)], [], (z_w M3 8 0 6 r3), false)) rfl ?_
    exact zT.ret (v := none) rfl trivial h
theorem g76_0 {M : zM} {Q : zQ} (h : zF 31 [zR 8 0, zI 0] M (fun v M1 => ∃ r1 : Nat, v = some (zR 10 r1) ∧ ∀ cl1 : Bool, zT 76 (22, [some (zR 0 0), some (zR 10 r1), some (zI (M1.1 8 0 5)), some (zI 0), some (zI 0), none], [], M1, cl1) Q)) : zT 76 (0, [some (zR 0 0), none, none, none, none, none], [], M, true) Q := by
  refine zT.it 3 (t := (5, [some (zR 0 0), none, none, none, none, none], [zI 0, zR 8 0], M, true)) rfl ?_
  refine zT.call (m := 31) (as := [zR 8 0, zI 0]) (M := M) (L := [some (zR 0 0), none, none, none, none, none]) (st := []) (pn := 8) (cl := true) rfl ?_
  refine zF.mono h (fun v M1 h cl1 => ?_)
  obtain ⟨r1, e1, h⟩ := h; subst e1; replace h := h cl1
  show zT 76 (8, [some (zR 0 0), none, none, none, none, none], [zR 10 r1], M1, cl1) _
  refine zT.it 9 (t := (22, [some (zR 0 0), some (zR 10 r1), some (zI (M1.1 8 0 5)), some (zI 0), some (zI 0), none], [], M1, cl1)) rfl ?_
  exact h
theorem g76_22a0 {j1 : Nat} {x2 : Int} {x3 : Int} {u5 : Option zV} {M : zM} {cl : Bool} {Q : zQ} (h : zF 74 [zR 10 j1, zI 0, zI (x2 + 1)] M (fun v M2 => ∃ r2 : Int, v = some (zI r2) ∧ ∀ cl2 : Bool, zF 74 [zR 10 j1, zI 0, zI x2] M2 (fun v M3 => ∃ r3 : Int, v = some (zI r3) ∧ ∀ cl3 : Bool, (zr (r2 - r3)) ∧ (((r2 - r3) = 0 → (zr (r2 - r3)) ∧ ((0 ≤ (r2 - r3) → zT 76 (22, [some (zR 0 0), some (zR 10 j1), some (zI x2), some (zI x3), some (zI 1), some (zI (r2 - r3))], [], (z_w M3 14 0 0 ((M3.1 14 0 0) + (r2 - r3))), false) Q) ∧ (¬ (0 ≤ (r2 - r3)) → (z_p x3 ∧ z_p (8 * 2 ^ 0)) ∧ (zT 76 (22, [some (zR 0 0), some (zR 10 j1), some (zI x2), some (zI (Int.ofNat (Int.toNat x3 ||| Int.toNat (8 * 2 ^ 0)))), some (zI 1), some (zI (r2 - r3))], [], (z_w M3 14 0 0 ((M3.1 14 0 0) + (r2 - r3))), false) Q)))) ∧ (¬ ((r2 - r3) = 0) → (z_p x3 ∧ z_p (1 * 2 ^ 0)) ∧ ((zr (r2 - r3)) ∧ ((0 ≤ (r2 - r3) → zT 76 (22, [some (zR 0 0), some (zR 10 j1), some (zI x2), some (zI (Int.ofNat (Int.toNat x3 ||| Int.toNat (1 * 2 ^ 0)))), some (zI 1), some (zI (r2 - r3))], [], (z_w M3 14 0 0 ((M3.1 14 0 0) + (r2 - r3))), false) Q) ∧ (¬ (0 ≤ (r2 - r3)) → (z_p (Int.ofNat (Int.toNat x3 ||| Int.toNat (1 * 2 ^ 0))) ∧ z_p (8 * 2 ^ 0)) ∧ (zT 76 (22, [some (zR 0 0), some (zR 10 j1), some (zI x2), some (zI (Int.ofNat (Int.toNat (Int.ofNat (Int.toNat x3 ||| Int.toNat (1 * 2 ^ 0))) ||| Int.toNat (8 * 2 ^ 0)))), some (zI 1), some (zI (r2 - r3))], [], (z_w M3 14 0 0 ((M3.1 14 0 0) + (r2 - r3))), false) Q))))))))) : zT 76 (22, [some (zR 0 0), some (zR 10 j1), some (zI x2), some (zI x3), some (zI 0), u5], [], M, cl) Q := by
  refine zT.it 2 (t := (25, [some (zR 0 0), some (zR 10 j1), some (zI x2), some (zI x3), some (zI 0), u5], [zI 3, zI 0], M, cl)) rfl ?_
  refine zT.br (g := zr 0 ∧ zr 3) (p := 3 ≤ 0) (t := (90, [some (zR 0 0), some (zR 10 j1), some (zI x2), some (zI x3), some (zI 0), u5], [], M, cl)) (u := (28, [some (zR 0 0), some (zR 10 j1), some (zI x2), some (zI x3), some (zI 0), u5], [], M, cl)) rfl (by decide) (fun c => absurd c (by decide)) (fun c => ?_)
  refine zT.it 5 (t := (34, [some (zR 0 0), some (zR 10 j1), some (zI x2), some (zI x3), some (zI 0), u5], [zI (x2 + 1), zI 0, zR 10 j1], M, cl)) rfl ?_
  refine zT.call (m := 74) (as := [zR 10 j1, zI 0, zI (x2 + 1)]) (M := M) (L := [some (zR 0 0), some (zR 10 j1), some (zI x2), some (zI x3), some (zI 0), u5]) (st := []) (pn := 37) (cl := cl) rfl ?_
  refine zF.mono h (fun v M2 h cl2 => ?_)
  obtain ⟨r2, e2, h⟩ := h; subst e2; replace h := h cl2
  show zT 76 (37, [some (zR 0 0), some (zR 10 j1), some (zI x2), some (zI x3), some (zI 0), u5], [zI r2], M2, cl2) _
  refine zT.it 3 (t := (41, [some (zR 0 0), some (zR 10 j1), some (zI x2), some (zI x3), some (zI 0), u5], [zI x2, zI 0, zR 10 j1, zI r2], M2, cl2)) rfl ?_
  refine zT.call (m := 74) (as := [zR 10 j1, zI 0, zI x2]) (M := M2) (L := [some (zR 0 0), some (zR 10 j1), some (zI x2), some (zI x3), some (zI 0), u5]) (st := [zI r2]) (pn := 44) (cl := cl2) rfl ?_
  refine zF.mono h (fun v M3 h cl3 => ?_)
  obtain ⟨r3, e3, h⟩ := h; subst e3; replace h := h cl3
  show zT 76 (44, [some (zR 0 0), some (zR 10 j1), some (zI x2), some (zI x3), some (zI 0), u5], [zI r3, zI r2], M3, cl3) _
  refine zT.it 6 (t := (54, [some (zR 0 0), some (zR 10 j1), some (zI x2), some (zI x3), some (zI 0), some (zI (r2 - r3))], [zI 0, zR 14 0, zI 0, zR 14 0], M3, cl3)) rfl ?_
  refine zT.chk (t := (55, [some (zR 0 0), some (zR 10 j1), some (zI x2), some (zI x3), some (zI 0), some (zI (r2 - r3))], [zI (M3.1 14 0 0), zI 0, zR 14 0], M3, cl3)) rfl (by first | decide | (dsimp only; decide)) ?_
  refine zT.it 2 (t := (58, [some (zR 0 0), some (zR 10 j1), some (zI x2), some (zI x3), some (zI 0), some (zI (r2 - r3))], [zI ((M3.1 14 0 0) + (r2 - r3)), zI 0, zR 14 0], M3, cl3)) rfl ?_
  refine zT.chk (t := (59, [some (zR 0 0), some (zR 10 j1), some (zI x2), some (zI x3), some (zI 0), some (zI (r2 - r3))], [], (z_w M3 14 0 0 ((M3.1 14 0 0) + (r2 - r3))), false)) rfl (by first | decide | (dsimp only; decide)) ?_
  refine zT.it 1 (t := (61, [some (zR 0 0), some (zR 10 j1), some (zI x2), some (zI x3), some (zI 0), some (zI (r2 - r3))], [zI (r2 - r3)], (z_w M3 14 0 0 ((M3.1 14 0 0) + (r2 - r3))), false)) rfl ?_
  refine zT.br (g := zr (r2 - r3)) (p := (r2 - r3) = 0) (t := (71, [some (zR 0 0), some (zR 10 j1), some (zI x2), some (zI x3), some (zI 0), some (zI (r2 - r3))], [], (z_w M3 14 0 0 ((M3.1 14 0 0) + (r2 - r3))), false)) (u := (64, [some (zR 0 0), some (zR 10 j1), some (zI x2), some (zI x3), some (zI 0), some (zI (r2 - r3))], [], (z_w M3 14 0 0 ((M3.1 14 0 0) + (r2 - r3))), false)) rfl h.1 (fun c => ?_) (fun c => ?_)
  · replace h := h.2.1 c
    refine zT.it 1 (t := (73, [some (zR 0 0), some (zR 10 j1), some (zI x2), some (zI x3), some (zI 0), some (zI (r2 - r3))], [zI (r2 - r3)], (z_w M3 14 0 0 ((M3.1 14 0 0) + (r2 - r3))), false)) rfl ?_
    refine zT.br (g := zr (r2 - r3)) (p := 0 ≤ (r2 - r3)) (t := (84, [some (zR 0 0), some (zR 10 j1), some (zI x2), some (zI x3), some (zI 0), some (zI (r2 - r3))], [], (z_w M3 14 0 0 ((M3.1 14 0 0) + (r2 - r3))), false)) (u := (76, [some (zR 0 0), some (zR 10 j1), some (zI x2), some (zI x3), some (zI 0), some (zI (r2 - r3))], [], (z_w M3 14 0 0 ((M3.1 14 0 0) + (r2 - r3))), false)) rfl h.1 (fun c => ?_) (fun c => ?_)
    · replace h := h.2.1 c
      refine zT.it 2 (t := (22, [some (zR 0 0), some (zR 10 j1), some (zI x2), some (zI x3), some (zI 1), some (zI (r2 - r3))], [], (z_w M3 14 0 0 ((M3.1 14 0 0) + (r2 - r3))), false)) rfl ?_
      exact h
    · replace h := h.2.2 c
      refine zT.it 3 (t := (81, [some (zR 0 0), some (zR 10 j1), some (zI x2), some (zI x3), some (zI 0), some (zI (r2 - r3))], [zI 0, zI 8, zI x3], (z_w M3 14 0 0 ((M3.1 14 0 0) + (r2 - r3))), false)) rfl ?_
      refine zT.chk (t := (82, [some (zR 0 0), some (zR 10 j1), some (zI x2), some (zI x3), some (zI 0), some (zI (r2 - r3))], [zI (8 * 2 ^ 0), zI x3], (z_w M3 14 0 0 ((M3.1 14 0 0) + (r2 - r3))), false)) rfl (by first | decide | (dsimp only; decide)) ?_
      refine zT.chk (p := z_p x3 ∧ z_p (8 * 2 ^ 0)) (t := (83, [some (zR 0 0), some (zR 10 j1), some (zI x2), some (zI x3), some (zI 0), some (zI (r2 - r3))], [zI (Int.ofNat (Int.toNat x3 ||| Int.toNat (8 * 2 ^ 0)))], (z_w M3 14 0 0 ((M3.1 14 0 0) + (r2 - r3))), false)) rfl h.1 ?_
      replace h := h.2
      refine zT.it 3 (t := (22, [some (zR 0 0), some (zR 10 j1), some (zI x2), some (zI (Int.ofNat (Int.toNat x3 ||| Int.toNat (8 * 2 ^ 0)))), some (zI 1), some (zI (r2 - r3))], [], (z_w M3 14 0 0 ((M3.1 14 0 0) + (r2 - r3))), false)) rfl ?_
      exact h
  · replace h := h.2.2 c
    refine zT.it 3 (t := (68, [some (zR 0 0), some (zR 10 j1), some (zI x2), some (zI x3), some (zI 0), some (zI (r2 - r3))], [zI 0, zI 1, zI x3], (z_w M3 14 0 0 ((M3.1 14 0 0) + (r2 - r3))), false)) rfl ?_
    refine zT.chk (t := (69, [some (zR 0 0), some (zR 10 j1), some (zI x2), some (zI x3), some (zI 0), some (zI (r2 - r3))], [zI (1 * 2 ^ 0), zI x3], (z_w M3 14 0 0 ((M3.1 14 0 0) + (r2 - r3))), false)) rfl (by first | decide | (dsimp only; decide)) ?_
    refine zT.chk (p := z_p x3 ∧ z_p (1 * 2 ^ 0)) (t := (70, [some (zR 0 0), some (zR 10 j1), some (zI x2), some (zI x3), some (zI 0), some (zI (r2 - r3))], [zI (Int.ofNat (Int.toNat x3 ||| Int.toNat (1 * 2 ^ 0)))], (z_w M3 14 0 0 ((M3.1 14 0 0) + (r2 - r3))), false)) rfl h.1 ?_
    replace h := h.2
    refine zT.it 2 (t := (73, [some (zR 0 0), some (zR 10 j1), some (zI x2), some (zI (Int.ofNat (Int.toNat x3 ||| Int.toNat (1 * 2 ^ 0)))), some (zI 0), some (zI (r2 - r3))], [zI (r2 - r3)], (z_w M3 14 0 0 ((M3.1 14 0 0) + (r2 - r3))), false)) rfl ?_
    refine zT.br (g := zr (r2 - r3)) (p := 0 ≤ (r2 - r3)) (t := (84, [some (zR 0 0), some (zR 10 j1), some (zI x2), some (zI (Int.ofNat (Int.toNat x3 ||| Int.toNat (1 * 2 ^ 0)))), some (zI 0), some (zI (r2 - r3))], [], (z_w M3 14 0 0 ((M3.1 14 0 0) + (r2 - r3))), false)) (u := (76, [some (zR 0 0), some (zR 10 j1), some (zI x2), some (zI (Int.ofNat (Int.toNat x3 ||| Int.toNat (1 * 2 ^ 0)))), some (zI 0), some (zI (r2 - r3))], [], (z_w M3 14 0 0 ((M3.1 14 0 0) + (r2 - r3))), false)) rfl h.1 (fun c => ?_) (fun c => ?_)
    · replace h := h.2.1 c
      refine zT.it 2 (t := (22, [some (zR 0 0), some (zR 10 j1), some (zI x2), some (zI (Int.ofNat (Int.toNat x3 ||| Int.toNat (1 * 2 ^ 0)))), some (zI 1), some (zI (r2 - r3))], [], (z_w M3 14 0 0 ((M3.1 14 0 0) + (r2 - r3))), false)) rfl ?_
      exact h
    · replace h := h.2.2 c
      refine zT.it 3 (t := (81, [some (zR 0 0), some (zR 10 j1), some (zI x2), some (zI (Int.ofNat (Int.toNat x3 ||| Int.toNat (1 * 2 ^ 0)))), some (zI 0), some (zI (r2 - r3))], [zI 0, zI 8, zI (Int.ofNat (Int.toNat x3 ||| Int.toNat (1 * 2 ^ 0)))], (z_w M3 14 0 0 ((M3.1 14 0 0) + (r2 - r3))), false)) rfl ?_
      refine zT.chk (t := (82, [some (zR 0 0), some (zR 10 j1), some (zI x2), some (zI (Int.ofNat (Int.toNat x3 ||| Int.toNat (1 * 2 ^ 0)))), some (zI 0), some (zI (r2 - r3))], [zI (8 * 2 ^ 0), zI (Int.ofNat (Int.toNat x3 ||| Int.toNat (1 * 2 ^ 0)))], (z_w M3 14 0 0 ((M3.1 14 0 0) + (r2 - r3))), false)) rfl (by first | decide | (dsimp only; decide)) ?_
      refine zT.chk (p := z_p (Int.ofNat (Int.toNat x3 ||| Int.toNat (1 * 2 ^ 0))) ∧ z_p (8 * 2 ^ 0)) (t := (83, [some (zR 0 0), some (zR 10 j1), some (zI x2), some (zI (Int.ofNat (Int.toNat x3 ||| Int.toNat (1 * 2 ^ 0)))), some (zI 0), some (zI (r2 - r3))], [zI (Int.ofNat (Int.toNat (Int.ofNat (Int.toNat x3 ||| Int.toNat (1 * 2 ^ 0))) ||| Int.toNat (8 * 2 ^ 0)))], (z_w M3 14 0 0 ((M3.1 14 0 0) + (r2 - r3))), false)) rfl h.1 ?_
      replace h := h.2
      refine zT.it 3 (t := (22, [some (zR 0 0), some (zR 10 j1), some (zI x2), some (zI (Int.ofNat (Int.toNat (Int.ofNat (Int.toNat x3 ||| Int.toNat (1 * 2 ^ 0))) ||| Int.toNat (8 * 2 ^ 0)))), some (zI 1), some (zI (r2 - r3))], [], (z_w M3 14 0 0 ((M3.1 14 0 0) + (r2 - r3))), false)) rfl ?_
      exact h
theorem g76_22a1 {j1 : Nat} {x2 : Int} {x3 : Int} {u5 : Option zV} {M : zM} {cl : Bool} {Q : zQ} (h : zF 74 [zR 10 j1, zI 1, zI (x2 + 1)] M (fun v M4 => ∃ r4 : Int, v = some (zI r4) ∧ ∀ cl4 : Bool, zF 74 [zR 10 j1, zI 1, zI x2] M4 (fun v M5 => ∃ r5 : Int, v = some (zI r5) ∧ ∀ cl5 : Bool, (zr (r4 - r5)) ∧ (((r4 - r5) = 0 → (zr (r4 - r5)) ∧ ((0 ≤ (r4 - r5) → zT 76 (22, [some (zR 0 0), some (zR 10 j1), some (zI x2), some (zI x3), some (zI 2), some (zI (r4 - r5))], [], (z_w M5 14 0 1 ((M5.1 14 0 1) + (r4 - r5))), false) Q) ∧ (¬ (0 ≤ (r4 - r5)) → (z_p x3 ∧ z_p (8 * 2 ^ 1)) ∧ (zT 76 (22, [some (zR 0 0), some (zR 10 j1), some (zI x2), some (zI (Int.ofNat (Int.toNat x3 ||| Int.toNat (8 * 2 ^ 1)))), some (zI 2), some (zI (r4 - r5))], [], (z_w M5 14 0 1 ((M5.1 14 0 1) + (r4 - r5))), false) Q)))) ∧ (¬ ((r4 - r5) = 0) → (z_p x3 ∧ z_p (1 * 2 ^ 1)) ∧ ((zr (r4 - r5)) ∧ ((0 ≤ (r4 - r5) → zT 76 (22, [some (zR 0 0), some (zR 10 j1), some (zI x2), some (zI (Int.ofNat (Int.toNat x3 ||| Int.toNat (1 * 2 ^ 1)))), some (zI 2), some (zI (r4 - r5))], [], (z_w M5 14 0 1 ((M5.1 14 0 1) + (r4 - r5))), false) Q) ∧ (¬ (0 ≤ (r4 - r5)) → (z_p (Int.ofNat (Int.toNat x3 ||| Int.toNat (1 * 2 ^ 1))) ∧ z_p (8 * 2 ^ 1)) ∧ (zT 76 (22, [some (zR 0 0), some (zR 10 j1), some (zI x2), some (zI (Int.ofNat (Int.toNat (Int.ofNat (Int.toNat x3 ||| Int.toNat (1 * 2 ^ 1))) ||| Int.toNat (8 * 2 ^ 1)))), some (zI 2), some (zI (r4 - r5))], [], (z_w M5 14 0 1 ((M5.1 14 0 1) + (r4 - r5))), false) Q))))))))) : zT 76 (22, [some (zR 0 0), some (zR 10 j1), some (zI x2), some (zI x3), some (zI 1), u5], [], M, cl) Q := by
  refine zT.it 2 (t := (25, [some (zR 0 0), some (zR 10 j1), some (zI x2), some (zI x3), some (zI 1), u5], [zI 3, zI 1], M, cl)) rfl ?_
  refine zT.br (g := zr 1 ∧ zr 3) (p := 3 ≤ 1) (t := (90, [some (zR 0 0), some (zR 10 j1), some (zI x2), some (zI x3), some (zI 1), u5], [], M, cl)) (u := (28, [some (zR 0 0), some (zR 10 j1), some (zI x2), some (zI x3), some (zI 1), u5], [], M, cl)) rfl (by decide) (fun c => absurd c (by decide)) (fun c => ?_)
  refine zT.it 5 (t := (34, [some (zR 0 0), some (zR 10 j1), some (zI x2), some (zI x3), some (zI 1), u5], [zI (x2 + 1), zI 1, zR 10 j1], M, cl)) rfl ?_
  refine zT.call (m := 74) (as := [zR 10 j1, zI 1, zI (x2 + 1)]) (M := M) (L := [some (zR 0 0), some (zR 10 j1), some (zI x2), some (zI x3), some (zI 1), u5]) (st := []) (pn := 37) (cl := cl) rfl ?_
  refine zF.mono h (fun v M4 h cl4 => ?_)
  obtain ⟨r4, e4, h⟩ := h; subst e4; replace h := h cl4
  show zT 76 (37, [some (zR 0 0), some (zR 10 j1), some (zI x2), some (zI x3), some (zI 1), u5], [zI r4], M4, cl4) _
  refine zT.it 3 (t := (41, [some (zR 0 0), some (zR 10 j1), some (zI x2), some (zI x3), some (zI 1), u5], [zI x2, zI 1, zR 10 j1, zI r4], M4, cl4)) rfl ?_
  refine zT.call (m := 74) (as := [zR 10 j1, zI 1, zI x2]) (M := M4) (L := [some (zR 0 0), some (zR 10 j1), some (zI x2), some (zI x3), some (zI 1), u5]) (st := [zI r4]) (pn := 44) (cl := cl4) rfl ?_
  refine zF.mono h (fun v M5 h cl5 => ?_)
  obtain ⟨r5, e5, h⟩ := h; subst e5; replace h := h cl5
  show zT 76 (44, [some (zR 0 0), some (zR 10 j1), some (zI x2), some (zI x3), some (zI 1), u5], [zI r5, zI r4], M5, cl5) _
  refine zT.it 6 (t := (54, [some (zR 0 0), some (zR 10 j1), some (zI x2), some (zI x3), some (zI 1), some (zI (r4 - r5))], [zI 1, zR 14 0, zI 1, zR 14 0], M5, cl5)) rfl ?_
  refine zT.chk (t := (55, [some (zR 0 0), some (zR 10 j1), some (zI x2), some (zI x3), some (zI 1), some (zI (r4 - r5))], [zI (M5.1 14 0 1), zI 1, zR 14 0], M5, cl5)) rfl (by first | decide | (dsimp only; decide)) ?_
  refine zT.it 2 (t := (58, [some (zR 0 0), some (zR 10 j1), some (zI x2), some (zI x3), some (zI 1), some (zI (r4 - r5))], [zI ((M5.1 14 0 1) + (r4 - r5)), zI 1, zR 14 0], M5, cl5)) rfl ?_
  refine zT.chk (t := (59, [some (zR 0 0), some (zR 10 j1), some (zI x2), some (zI x3), some (zI 1), some (zI (r4 - r5))], [], (z_w M5 14 0 1 ((M5.1 14 0 1) + (r4 - r5))), false)) rfl (by first | decide | (dsimp only; decide)) ?_
  refine zT.it 1 (t := (61, [some (zR 0 0), some (zR 10 j1), some (zI x2), some (zI x3), some (zI 1), some (zI (r4 - r5))], [zI (r4 - r5)], (z_w M5 14 0 1 ((M5.1 14 0 1) + (r4 - r5))), false)) rfl ?_
  refine zT.br (g := zr (r4 - r5)) (p := (r4 - r5) = 0) (t := (71, [some (zR 0 0), some (zR 10 j1), some (zI x2), some (zI x3), some (zI 1), some (zI (r4 - r5))], [], (z_w M5 14 0 1 ((M5.1 14 0 1) + (r4 - r5))), false)) (u := (64, [some (zR 0 0), some (zR 10 j1), some (zI x2), some (zI x3), some (zI 1), some (zI (r4 - r5))], [], (z_w M5 14 0 1 ((M5.1 14 0 1) + (r4 - r5))), false)) rfl h.1 (fun c => ?_) (fun c => ?_)
  · replace h := h.2.1 c
    refine zT.it 1 (t := (73, [some (zR 0 0), some (zR 10 j1), some (zI x2), some (zI x3), some (zI 1), some (zI (r4 - r5))], [zI (r4 - r5)], (z_w M5 14 0 1 ((M5.1 14 0 1) + (r4 - r5))), false)) rfl ?_
    refine zT.br (g := zr (r4 - r5)) (p := 0 ≤ (r4 - r5)) (t := (84, [some (zR 0 0), some (zR 10 j1), some (zI x2), some (zI x3), some (zI 1), some (zI (r4 - r5))], [], (z_w M5 14 0 1 ((M5.1 14 0 1) + (r4 - r5))), false)) (u := (76, [some (zR 0 0), some (zR 10 j1), some (zI x2), some (zI x3), some (zI 1), some (zI (r4 - r5))], [], (z_w M5 14 0 1 ((M5.1 14 0 1) + (r4 - r5))), false)) rfl h.1 (fun c => ?_) (fun c => ?_)
    · replace h := h.2.1 c
      refine zT.it 2 (t := (22, [some (zR 0 0), some (zR 10 j1), some (zI x2), some (zI x3), some (zI 2), some (zI (r4 - r5))], [], (z_w M5 14 0 1 ((M5.1 14 0 1) + (r4 - r5))), false)) rfl ?_
      exact h
    · replace h := h.2.2 c
      refine zT.it 3 (t := (81, [some (zR 0 0), some (zR 10 j1), some (zI x2), some (zI x3), some (zI 1), some (zI (r4 - r5))], [zI 1, zI 8, zI x3], (z_w M5 14 0 1 ((M5.1 14 0 1) + (r4 - r5))), false)) rfl ?_
      refine zT.chk (t := (82, [some (zR 0 0), some (zR 10 j1), some (zI x2), some (zI x3), some (zI 1), some (zI (r4 - r5))], [zI (8 * 2 ^ 1), zI x3], (z_w M5 14 0 1 ((M5.1 14 0 1) + (r4 - r5))), false)) rfl (by first | decide | (dsimp only; decide)) ?_
      refine zT.chk (p := z_p x3 ∧ z_p (8 * 2 ^ 1)) (t := (83, [some (zR 0 0), some (zR 10 j1), some (zI x2), some (zI x3), some (zI 1), some (zI (r4 - r5))], [zI (Int.ofNat (Int.toNat x3 ||| Int.toNat (8 * 2 ^ 1)))], (z_w M5 14 0 1 ((M5.1 14 0 1) + (r4 - r5))), false)) rfl h.1 ?_
      replace h := h.2
      refine zT.it 3 (t := (22, [some (zR 0 0), some (zR 10 j1), some (zI x2), some (zI (Int.ofNat (Int.toNat x3 ||| Int.toNat (8 * 2 ^ 1)))), some (zI 2), some (zI (r4 - r5))], [], (z_w M5 14 0 1 ((M5.1 14 0 1) + (r4 - r5))), false)) rfl ?_
      exact h
  · replace h := h.2.2 c
    refine zT.it 3 (t := (68, [some (zR 0 0), some (zR 10 j1), some (zI x2), some (zI x3), some (zI 1), some (zI (r4 - r5))], [zI 1, zI 1, zI x3], (z_w M5 14 0 1 ((M5.1 14 0 1) + (r4 - r5))), false)) rfl ?_
    refine zT.chk (t := (69, [some (zR 0 0), some (zR 10 j1), some (zI x2), some (zI x3), some (zI 1), some (zI (r4 - r5))], [zI (1 * 2 ^ 1), zI x3], (z_w M5 14 0 1 ((M5.1 14 0 1) + (r4 - r5))), false)) rfl (by first | decide | (dsimp only; decide)) ?_
    refine zT.chk (p := z_p x3 ∧ z_p (1 * 2 ^ 1)) (t := (70, [some (zR 0 0), some (zR 10 j1), some (zI x2), some (zI x3), some (zI 1), some (zI (r4 - r5))], [zI (Int.ofNat (Int.toNat x3 ||| Int.toNat (1 * 2 ^ 1)))], (z_w M5 14 0 1 ((M5.1 14 0 1) + (r4 - r5))), false)) rfl h.1 ?_
    replace h := h.2
    refine zT.it 2 (t := (73, [some (zR 0 0), some (zR 10 j1), some (zI x2), some (zI (Int.ofNat (Int.toNat x3 ||| Int.toNat (1 * 2 ^ 1)))), some (zI 1), some (zI (r4 - r5))], [zI (r4 - r5)], (z_w M5 14 0 1 ((M5.1 14 0 1) + (r4 - r5))), false)) rfl ?_
    refine zT.br (g := zr (r4 - r5)) (p := 0 ≤ (r4 - r5)) (t := (84, [some (zR 0 0), some (zR 10 j1), some (zI x2), some (zI (Int.ofNat (Int.toNat x3 ||| Int.toNat (1 * 2 ^ 1)))), some (zI 1), some (zI (r4 - r5))], [], (z_w M5 14 0 1 ((M5.1 14 0 1) + (r4 - r5))), false)) (u := (76, [some (zR 0 0), some (zR 10 j1), some (zI x2), some (zI (Int.ofNat (Int.toNat x3 ||| Int.toNat (1 * 2 ^ 1)))), some (zI 1), some (zI (r4 - r5))], [], (z_w M5 14 0 1 ((M5.1 14 0 1) + (r4 - r5))), false)) rfl h.1 (fun c => ?_) (fun c => ?_)
    · replace h := h.2.1 c
      refine zT.it 2 (t := (22, [some (zR 0 0), some (zR 10 j1), some (zI x2), some (zI (Int.ofNat (Int.toNat x3 ||| Int.toNat (1 * 2 ^ 1)))), some (zI 2), some (zI (r4 - r5))], [], (z_w M5 14 0 1 ((M5.1 14 0 1) + (r4 - r5))), false)) rfl ?_
      exact h
    · replace h := h.2.2 c
      refine zT.it 3 (t := (81, [some (zR 0 0), some (zR 10 j1), some (zI x2), some (zI (Int.ofNat (Int.toNat x3 ||| Int.toNat (1 * 2 ^ 1)))), some (zI 1), some (zI (r4 - r5))], [zI 1, zI 8, zI (Int.ofNat (Int.toNat x3 ||| Int.toNat (1 * 2 ^ 1)))], (z_w M5 14 0 1 ((M5.1 14 0 1) + (r4 - r5))), false)) rfl ?_
      refine zT.chk (t := (82, [some (zR 0 0), some (zR 10 j1), some (zI x2), some (zI (Int.ofNat (Int.toNat x3 ||| Int.toNat (1 * 2 ^ 1)))), some (zI 1), some (zI (r4 - r5))], [zI (8 * 2 ^ 1), zI (Int.ofNat (Int.toNat x3 ||| Int.toNat (1 * 2 ^ 1)))], (z_w M5 14 0 1 ((M5.1 14 0 1) + (r4 - r5))), false)) rfl (by first | decide | (dsimp only; decide)) ?_
      refine zT.chk (p := z_p (Int.ofNat (Int.toNat x3 ||| Int.toNat (1 * 2 ^ 1))) ∧ z_p (8 * 2 ^ 1)) (t := (83, [some (zR 0 0), some (zR 10 j1), some (zI x2), some (zI (Int.ofNat (Int.toNat x3 ||| Int.toNat (1 * 2 ^ 1)))), some (zI 1), some (zI (r4 - r5))], [zI (Int.ofNat (Int.toNat (Int.ofNat (Int.toNat x3 ||| Int.toNat (1 * 2 ^ 1))) ||| Int.toNat (8 * 2 ^ 1)))], (z_w M5 14 0 1 ((M5.1 14 0 1) + (r4 - r5))), false)) rfl h.1 ?_
      replace h := h.2
      refine zT.it 3 (t := (22, [some (zR 0 0), some (zR 10 j1), some (zI x2), some (zI (Int.ofNat (Int.toNat (Int.ofNat (Int.toNat x3 ||| Int.toNat (1 * 2 ^ 1))) ||| Int.toNat (8 * 2 ^ 1)))), some (zI 2), some (zI (r4 - r5))], [], (z_w M5 14 0 1 ((M5.1 14 0 1) + (r4 - r5))), false)) rfl ?_
      exact h
theorem g76_22a2 {j1 : Nat} {x2 : Int} {x3 : Int} {u5 : Option zV} {M : zM} {cl : Bool} {Q : zQ} (h : zF 74 [zR 10 j1, zI 2, zI (x2 + 1)] M (fun v M6 => ∃ r6 : Int, v = some (zI r6) ∧ ∀ cl6 : Bool, zF 74 [zR 10 j1, zI 2, zI x2] M6 (fun v M7 => ∃ r7 : Int, v = some (zI r7) ∧ ∀ cl7 : Bool, (zr (r6 - r7)) ∧ (((r6 - r7) = 0 → (zr (r6 - r7)) ∧ ((0 ≤ (r6 - r7) → zT 76 (22, [some (zR 0 0), some (zR 10 j1), some (zI x2), some (zI x3), some (zI 3), some (zI (r6 - r7))], [], (z_w M7 14 0 2 ((M7.1 14 0 2) + (r6 - r7))), false) Q) ∧ (¬ (0 ≤ (r6 - r7)) → (z_p x3 ∧ z_p (8 * 2 ^ 2)) ∧ (zT 76 (22, [some (zR 0 0), some (zR 10 j1), some (zI x2), some (zI (Int.ofNat (Int.toNat x3 ||| Int.toNat (8 * 2 ^ 2)))), some (zI 3), some (zI (r6 - r7))], [], (z_w M7 14 0 2 ((M7.1 14 0 2) + (r6 - r7))), false) Q)))) ∧ (¬ ((r6 - r7) = 0) → (z_p x3 ∧ z_p (1 * 2 ^ 2)) ∧ ((zr (r6 - r7)) ∧ ((0 ≤ (r6 - r7) → zT 76 (22, [some (zR 0 0), some (zR 10 j1), some (zI x2), some (zI (Int.ofNat (Int.toNat x3 ||| Int.toNat (1 * 2 ^ 2)))), some (zI 3), some (zI (r6 - r7))], [], (z_w M7 14 0 2 ((M7.1 14 0 2) + (r6 - r7))), false) Q) ∧ (¬ (0 ≤ (r6 - r7)) → (z_p (Int.ofNat (Int.toNat x3 ||| Int.toNat (1 * 2 ^ 2))) ∧ z_p (8 * 2 ^ 2)) ∧ (zT 76 (22, [some (zR 0 0), some (zR 10 j1), some (zI x2), some (zI (Int.ofNat (Int.toNat (Int.ofNat (Int.toNat x3 ||| Int.toNat (1 * 2 ^ 2))) ||| Int.toNat (8 * 2 ^ 2)))), some (zI 3), some (zI (r6 - r7))], [], (z_w M7 14 0 2 ((M7.1 14 0 2) + (r6 - r7))), false) Q))))))))) : zT 76 (22, [some (zR 0 0), some (zR 10 j1), some (zI x2), some (zI x3), some (zI 2), u5], [], M, cl) Q := by
  refine zT.it 2 (t := (25, [some (zR 0 0), some (zR 10 j1), some (zI x2), some (zI x3), some (zI 2), u5], [zI 3, zI 2], M, cl)) rfl ?_
  refine zT.br (g := zr 2 ∧ zr 3) (p := 3 ≤ 2) (t := (90, [some (zR 0 0), some (zR 10 j1), some (zI x2), some (zI x3), some (zI 2), u5], [], M, cl)) (u := (28, [some (zR 0 0), some (zR 10 j1), some (zI x2), some (zI x3), some (zI 2), u5], [], M, cl)) rfl (by decide) (fun c => absurd c (by decide)) (fun c => ?_)
  refine zT.it 5 (t := (34, [some (zR 0 0), some (zR 10 j1), some (zI x2), some (zI x3), some (zI 2), u5], [zI (x2 + 1), zI 2, zR 10 j1], M, cl)) rfl ?_
  refine zT.call (m := 74) (as := [zR 10 j1, zI 2, zI (x2 + 1)]) (M := M) (L := [some (zR 0 0), some (zR 10 j1), some (zI x2), some (zI x3), some (zI 2), u5]) (st := []) (pn := 37) (cl := cl) rfl ?_
  refine zF.mono h (fun v M6 h cl6 => ?_)
  obtain ⟨r6, e6, h⟩ := h; subst e6; replace h := h cl6
  show zT 76 (37, [some (zR 0 0), some (zR 10 j1), some (zI x2), some (zI x3), some (zI 2), u5], [zI r6], M6, cl6) _
  refine zT.it 3 (t := (41, [some (zR 0 0), some (zR 10 j1), some (zI x2), some (zI x3), some (zI 2), u5], [zI x2, zI 2, zR 10 j1, zI r6], M6, cl6)) rfl ?_
  refine zT.call (m := 74) (as := [zR 10 j1, zI 2, zI x2]) (M := M6) (L := [some (zR 0 0), some (zR 10 j1), some (zI x2), some (zI x3), some (zI 2), u5]) (st := [zI r6]) (pn := 44) (cl := cl6) rfl ?_
  refine zF.mono h (fun v M7 h cl7 => ?_)
  obtain ⟨r7, e7, h⟩ := h; subst e7; replace h := h cl7
  show zT 76 (44, [some (zR 0 0), some (zR 10 j1), some (zI x2), some (zI x3), some (zI 2), u5], [zI r7, zI r6], M7, cl7) _
  refine zT.it 6 (t := (54, [some (zR 0 0), some (zR 10 j1), some (zI x2), some (zI x3), some (zI 2), some (zI (r6 - r7))], [zI 2, zR 14 0, zI 2, zR 14 0], M7, cl7)) rfl ?_
  refine zT.chk (t := (55, [some (zR 0 0), some (zR 10 j1), some (zI x2), some (zI x3), some (zI 2), some (zI (r6 - r7))], [zI (M7.1 14 0 2), zI 2, zR 14 0], M7, cl7)) rfl (by first | decide | (dsimp only; decide)) ?_
  refine zT.it 2 (t := (58, [some (zR 0 0), some (zR 10 j1), some (zI x2), some (zI x3), some (zI 2), some (zI (r6 - r7))], [zI ((M7.1 14 0 2) + (r6 - r7)), zI 2, zR 14 0], M7, cl7)) rfl ?_
  refine zT.chk (t := (59, [some (zR 0 0), some (zR 10 j1), some (zI x2), some (zI x3), some (zI 2), some (zI (r6 - r7))], [], (z_w M7 14 0 2 ((M7.1 14 0 2) + (r6 - r7))), false)) rfl (by first | decide | (dsimp only; decide)) ?_
  refine zT.it 1 (t := (61, [some (zR 0 0), some (zR 10 j1), some (zI x2), some (zI x3), some (zI 2), some (zI (r6 - r7))], [zI (r6 - r7)], (z_w M7 14 0 2 ((M7.1 14 0 2) + (r6 - r7))), false)) rfl ?_
  refine zT.br (g := zr (r6 - r7)) (p := (r6 - r7) = 0) (t := (71, [some (zR 0 0), some (zR 10 j1), some (zI x2), some (zI x3), some (zI 2), some (zI (r6 - r7))], [], (z_w M7 14 0 2 ((M7.1 14 0 2) + (r6 - r7))), false)) (u := (64, [some (zR 0 0), some (zR 10 j1), some (zI x2), some (zI x3), some (zI 2), some (zI (r6 - r7))], [], (z_w M7 14 0 2 ((M7.1 14 0 2) + (r6 - r7))), false)) rfl h.1 (fun c => ?_) (fun c => ?_)
  · replace h := h.2.1 c
    refine zT.it 1 (t := (73, [some (zR 0 0), some (zR 10 j1), some (zI x2), some (zI x3), some (zI 2), some (zI (r6 - r7))], [zI (r6 - r7)], (z_w M7 14 0 2 ((M7.1 14 0 2) + (r6 - r7))), false)) rfl ?_
    refine zT.br (g := zr (r6 - r7)) (p := 0 ≤ (r6 - r7)) (t := (84, [some (zR 0 0), some (zR 10 j1), some (zI x2), some (zI x3), some (zI 2), some (zI (r6 - r7))], [], (z_w M7 14 0 2 ((M7.1 14 0 2) + (r6 - r7))), false)) (u := (76, [some (zR 0 0), some (zR 10 j1), some (zI x2), some (zI x3), some (zI 2), some (zI (r6 - r7))], [], (z_w M7 14 0 2 ((M7.1 14 0 2) + (r6 - r7))), false)) rfl h.1 (fun c => ?_) (fun c => ?_)
    · replace h := h.2.1 c
      refine zT.it 2 (t := (22, [some (zR 0 0), some (zR 10 j1), some (zI x2), some (zI x3), some (zI 3), some (zI (r6 - r7))], [], (z_w M7 14 0 2 ((M7.1 14 0 2) + (r6 - r7))), false)) rfl ?_
      exact h
    · replace h := h.2.2 c
      refine zT.it 3 (t := (81, [some (zR 0 0), some (zR 10 j1), some (zI x2), some (zI x3), some (zI 2), some (zI (r6 - r7))], [zI 2, zI 8, zI x3], (z_w M7 14 0 2 ((M7.1 14 0 2) + (r6 - r7))), false)) rfl ?_
      refine zT.chk (t := (82, [some (zR 0 0), some (zR 10 j1), some (zI x2), some (zI x3), some (zI 2), some (zI (r6 - r7))], [zI (8 * 2 ^ 2), zI x3], (z_w M7 14 0 2 ((M7.1 14 0 2) + (r6 - r7))), false)) rfl (by first | decide | (dsimp only; decide)) ?_
      refine zT.chk (p := z_p x3 ∧ z_p (8 * 2 ^ 2)) (t := (83, [some (zR 0 0), some (zR 10 j1), some (zI x2), some (zI x3), some (zI 2), some (zI (r6 - r7))], [zI (Int.ofNat (Int.toNat x3 ||| Int.toNat (8 * 2 ^ 2)))], (z_w M7 14 0 2 ((M7.1 14 0 2) + (r6 - r7))), false)) rfl h.1 ?_
      replace h := h.2
      refine zT.it 3 (t := (22, [some (zR 0 0), some (zR 10 j1), some (zI x2), some (zI (Int.ofNat (Int.toNat x3 ||| Int.toNat (8 * 2 ^ 2)))), some (zI 3), some (zI (r6 - r7))], [], (z_w M7 14 0 2 ((M7.1 14 0 2) + (r6 - r7))), false)) rfl ?_
      exact h
  · replace h := h.2.2 c
    refine zT.it 3 (t := (68, [some (zR 0 0), some (zR 10 j1), some (zI x2), some (zI x3), some (zI 2), some (zI (r6 - r7))], [zI 2, zI 1, zI x3], (z_w M7 14 0 2 ((M7.1 14 0 2) + (r6 - r7))), false)) rfl ?_
    refine zT.chk (t := (69, [some (zR 0 0), some (zR 10 j1), some (zI x2), some (zI x3), some (zI 2), some (zI (r6 - r7))], [zI (1 * 2 ^ 2), zI x3], (z_w M7 14 0 2 ((M7.1 14 0 2) + (r6 - r7))), false)) rfl (by first | decide | (dsimp only; decide)) ?_
    refine zT.chk (p := z_p x3 ∧ z_p (1 * 2 ^ 2)) (t := (70, [some (zR 0 0), some (zR 10 j1), some (zI x2), some (zI x3), some (zI 2), some (zI (r6 - r7))], [zI (Int.ofNat (Int.toNat x3 ||| Int.toNat (1 * 2 ^ 2)))], (z_w M7 14 0 2 ((M7.1 14 0 2) + (r6 - r7))), false)) rfl h.1 ?_
    replace h := h.2
    refine zT.it 2 (t := (73, [some (zR 0 0), some (zR 10 j1), some (zI x2), some (zI (Int.ofNat (Int.toNat x3 ||| Int.toNat (1 * 2 ^ 2)))), some (zI 2), some (zI (r6 - r7))], [zI (r6 - r7)], (z_w M7 14 0 2 ((M7.1 14 0 2) + (r6 - r7))), false)) rfl ?_
    refine zT.br (g := zr (r6 - r7)) (p := 0 ≤ (r6 - r7)) (t := (84, [some (zR 0 0), some (zR 10 j1), some (zI x2), some (zI (Int.ofNat (Int.toNat x3 ||| Int.toNat (1 * 2 ^ 2)))), some (zI 2), some (zI (r6 - r7))], [], (z_w M7 14 0 2 ((M7.1 14 0 2) + (r6 - r7))), false)) (u := (76, [some (zR 0 0), some (zR 10 j1), some (zI x2), some (zI (Int.ofNat (Int.toNat x3 ||| Int.toNat (1 * 2 ^ 2)))), some (zI 2), some (zI (r6 - r7))], [], (z_w M7 14 0 2 ((M7.1 14 0 2) + (r6 - r7))), false)) rfl h.1 (fun c => ?_) (fun c => ?_)
    · replace h := h.2.1 c
      refine zT.it 2 (t := (22, [some (zR 0 0), some (zR 10 j1), some (zI x2), some (zI (Int.ofNat (Int.toNat x3 ||| Int.toNat (1 * 2 ^ 2)))), some (zI 3), some (zI (r6 - r7))], [], (z_w M7 14 0 2 ((M7.1 14 0 2) + (r6 - r7))), false)) rfl ?_
      exact h
    · replace h := h.2.2 c
      refine zT.it 3 (t := (81, [some (zR 0 0), some (zR 10 j1), some (zI x2), some (zI (Int.ofNat (Int.toNat x3 ||| Int.toNat (1 * 2 ^ 2)))), some (zI 2), some (zI (r6 - r7))], [zI 2, zI 8, zI (Int.ofNat (Int.toNat x3 ||| Int.toNat (1 * 2 ^ 2)))], (z_w M7 14 0 2 ((M7.1 14 0 2) + (r6 - r7))), false)) rfl ?_
      refine zT.chk (t := (82, [some (zR 0 0), some (zR 10 j1), some (zI x2), some (zI (Int.ofNat (Int.toNat x3 ||| Int.toNat (1 * 2 ^ 2)))), some (zI 2), some (zI (r6 - r7))], [zI (8 * 2 ^ 2), zI (Int.ofNat (Int.toNat x3 ||| Int.toNat (1 * 2 ^ 2)))], (z_w M7 14 0 2 ((M7.1 14 0 2) + (r6 - r7))), false)) rfl (by first | decide | (dsimp only; decide)) ?_
      refine zT.chk (p := z_p (Int.ofNat (Int.toNat x3 ||| Int.toNat (1 * 2 ^ 2))) ∧ z_p (8 * 2 ^ 2)) (t := (83, [some (zR 0 0), some (zR 10 j1), some (zI x2), some (zI (Int.ofNat (Int.toNat x3 ||| Int.toNat (1 * 2 ^ 2)))), some (zI 2), some (zI (r6 - r7))], [zI (Int.ofNat (Int.toNat (Int.ofNat (Int.toNat x3 ||| Int.toNat (1 * 2 ^ 2))) ||| Int.toNat (8 * 2 ^ 2)))], (z_w M7 14 0 2 ((M7.1 14 0 2) + (r6 - r7))), false)) rfl h.1 ?_
      replace h := h.2
      refine zT.it 3 (t := (22, [some (zR 0 0), some (zR 10 j1), some (zI x2), some (zI (Int.ofNat (Int.toNat (Int.ofNat (Int.toNat x3 ||| Int.toNat (1 * 2 ^ 2))) ||| Int.toNat (8 * 2 ^ 2)))), some (zI 3), some (zI (r6 - r7))], [], (z_w M7 14 0 2 ((M7.1 14 0 2) + (r6 - r7))), false)) rfl ?_
      exact h
theorem g76_22a3 {j1 : Nat} {x2 : Int} {x3 : Int} {u5 : Option zV} {M : zM} {cl : Bool} {Q : zQ} (h : zF 75 [zR 8 0] M (fun v M8 => v = none ∧ ∀ cl8 : Bool, Q (.inl (some (zI x3))) M8 cl8 0)) : zT 76 (22, [some (zR 0 0), some (zR 10 j1), some (zI x2), some (zI x3), some (zI 3), u5], [], M, cl) Q := by
  refine zT.it 2 (t := (25, [some (zR 0 0), some (zR 10 j1), some (zI x2), some (zI x3), some (zI 3), u5], [zI 3, zI 3], M, cl)) rfl ?_
  refine zT.br (g := zr 3 ∧ zr 3) (p := 3 ≤ 3) (t := (90, [some (zR 0 0), some (zR 10 j1), some (zI x2), some (zI x3), some (zI 3), u5], [], M, cl)) (u := (28, [some (zR 0 0), some (zR 10 j1), some (zI x2), some (zI x3), some (zI 3), u5], [], M, cl)) rfl (by decide) (fun c => ?_) (fun c => absurd (by decide) c)
  refine zT.it 2 (t := (94, [some (zR 0 0), some (zR 10 j1), some (zI x2), some (zI x3), some (zI 3), u5], [zR 8 0], M, cl)) rfl ?_
  refine zT.call (m := 75) (as := [zR 8 0]) (M := M) (L := [some (zR 0 0), some (zR 10 j1), some (zI x2), some (zI x3), some (zI 3), u5]) (st := []) (pn := 97) (cl := cl) rfl ?_
  refine zF.mono h (fun v M8 h cl8 => ?_)
  obtain ⟨e8, h⟩ := h; subst e8; replace h := h cl8
  show zT 76 (97, [some (zR 0 0), some (zR 10 j1), some (zI x2), some (zI x3), some (zI 3), u5], [], M8, cl8) _
  refine zT.it 1 (t := (98, [some (zR 0 0), some (zR 10 j1), some (zI x2), some (zI x3), some (zI 3), u5], [zI x3], M8, cl8)) rfl ?_
  exact zT.ret (v := some (zI x3)) rfl (by first | exact trivial | decide) h
theorem g77_0 {M : zM} {Q : zQ} (h : zF 31 [zR 8 0, zI 0] M (fun v M1 => ∃ r1 : Nat, v = some (zR 10 r1) ∧ ∀ cl1 : Bool, zF 68 [zR 10 r1] M1 (fun v M2 => ∃ r2 : Int, v = some (zI r2) ∧ ∀ cl2 : Bool, (zr r2) ∧ ((¬ r2 = 0 → Q (.inl (some (zI 1))) M2 cl2 0) ∧ (r2 = 0 → (zr (M2.1 8 0 5) ∧ zr (M2.1 10 r1 1)) ∧ (((M2.1 8 0 5) < (M2.1 10 r1 1) → Q (.inl (some (zI 0))) M2 cl2 0) ∧ (¬ ((M2.1 8 0 5) < (M2.1 10 r1 1)) → Q (.inl (some (zI 1))) M2 cl2 0))))))) : zT 77 (0, [some (zR 8 0), none], [], M, true) Q := by
  refine zT.it 2 (t := (2, [some (zR 8 0), none], [zI 0, zR 8 0], M, true)) rfl ?_
  refine zT.call (m := 31) (as := [zR 8 0, zI 0]) (M := M) (L := [some (zR 8 0), none]) (st := []) (pn := 5) (cl := true) rfl ?_
  refine zF.mono h (fun v M1 h cl1 => ?_)
  obtain ⟨r1, e1, h⟩ := h; subst e1; replace h := h cl1
  show zT 77 (5, [some (zR 8 0), none], [zR 10 r1], M1, cl1) _
  refine zT.it 2 (t := (7, [some (zR 8 0), some (zR 10 r1)], [zR 10 r1], M1, cl1)) rfl ?_
  refine zT.call (m := 68) (as := [zR 10 r1]) (M := M1) (L := [some (zR 8 0), some (zR 10 r1)]) (st := []) (pn := 10) (cl := cl1) rfl ?_
  refine zF.mono h (fun v M2 h cl2 => ?_)
  obtain ⟨r2, e2, h⟩ := h; subst e2; replace h := h cl2
  show zT 77 (10, [some (zR 8 0), some (zR 10 r1)], [zI r2], M2, cl2) _
  refine zT.br (g := zr r2) (p := ¬ r2 = 0) (t := (24, [some (zR 8 0), some (zR 10 r1)], [], M2, cl2)) (u := (13, [some (zR 8 0), some (zR 10 r1)], [], M2, cl2)) rfl h.1 (fun c => ?_) (fun c => ?_)
  · replace h := h.2.1 c
    refine zT.it 2 (t := (29, [some (zR 8 0), some (zR 10 r1)], [zI 1], M2, cl2)) rfl ?_
    exact zT.ret (v := some (zI 1)) rfl (by first | exact trivial | decide) h
  · replace h := h.2.2 (Decidable.not_not.1 c)
    refine zT.it 4 (t := (21, [some (zR 8 0), some (zR 10 r1)], [zI (M2.1 10 r1 1), zI (M2.1 8 0 5)], M2, cl2)) rfl ?_
    refine zT.br (g := zr (M2.1 8 0 5) ∧ zr (M2.1 10 r1 1)) (p := (M2.1 8 0 5) < (M2.1 10 r1 1)) (t := (28, [some (zR 8 0), some (zR 10 r1)], [], M2, cl2)) (u := (24, [some (zR 8 0), some (zR 10 r1)], [], M2, cl2)) rfl h.1 (fun c => ?_) (fun c => ?_)
    · replace h := h.2.1 c
      refine zT.it 1 (t := (29, [some (zR 8 0), some (zR 10 r1)], [zI 0], M2, cl2)) rfl ?_
      exact zT.ret (v := some (zI 0)) rfl (by first | exact trivial | decide) h
    · replace h := h.2.2 c
      refine zT.it 2 (t := (29, [some (zR 8 0), some (zR 10 r1)], [zI 1], M2, cl2)) rfl ?_
      exact zT.ret (v := some (zI 1)) rfl (by first | exact trivial | decide) h
theorem g78_0 {M : zM} {Q : zQ} (h : zF 30 [zI ((M.1 8 0 2) + 1), zI 8] M (fun v M1 => ∃ r1 : Int, v = some (zI r1) ∧ ∀ cl1 : Bool, zF 32 [zI 0, zI ((M1.1 8 0 3) - 1)] (z_w M1 8 0 2 r1) (fun v M2 => ∃ r2 : Int, v = some (zI r2) ∧ ∀ cl2 : Bool, Q (.inl none) (z_w (z_w M2 8 0 3 r2) 8 0 4 0) false 0))) : zT 78 (0, [some (zR 8 0)], [], M, true) Q := by
  refine zT.it 6 (t := (9, [some (zR 8 0)], [zI 8, zI ((M.1 8 0 2) + 1), zR 8 0], M, true)) rfl ?_
  refine zT.call (m := 30) (as := [zI ((M.1 8 0 2) + 1), zI 8]) (M := M) (L := [some (zR 8 0)]) (st := [zR 8 0]) (pn := 12) (cl := true) rfl ?_
  refine zF.mono h (fun v M1 h cl1 => ?_)
  obtain ⟨r1, e1, h⟩ := h; subst e1; replace h := h cl1
  show zT 78 (12, [some (zR 8 0)], [zI r1, zR 8 0], M1, cl1) _
  refine zT.it 7 (t := (23, [some (zR 8 0)], [zI ((M1.1 8 0 3) - 1), zI 0, zR 8 0], (z_w M1 8 0 2 r1), false)) rfl ?_
  refine zT.call (m := 32) (as := [zI 0, zI ((M1.1 8 0 3) - 1)]) (M := (z_w M1 8 0 2 r1)) (L := [some (zR 8 0)]) (st := [zR 8 0]) (pn := 26) (cl := false) rfl ?_
  refine zF.mono h (fun v M2 h cl2 => ?_)
  obtain ⟨r2, e2, h⟩ := h; subst e2; replace h := h cl2
  show zT 78 (26, [some (zR 8 0)], [zI r2, zR 8 0], M2, cl2) _
  refine zT.it 3 (t := (31, [some (zR 8 0)], [zI 0, zR 8 0], (z_w M2 8 0 3 r2), false)) rfl ?_
  refine zT.chk (t := (34, [some (zR 8 0)], [], (z_w (z_w M2 8 0 3 r2) 8 0 4 0), false)) rfl (by first | decide | (dsimp only; decide)) ?_
  exact zT.ret (v := none) rfl trivial h
theorem g79_0_14 {a2 : Int} {M : zM} {Q : zQ} (h : zF 30 [zI ((M.1 12 0 1) + 1), zI 2] (z_w M 12 0 1 ((M.1 12 0 1) + 1)) (fun v M1 => ∃ r1 : Int, v = some (zI r1) ∧ ∀ cl1 : Bool, (zr a2) ∧ ((a2 ≤ 0 → zT 79 (37, [some (zR 12 0), some (zR 14 0), some (zI a2), some (zI (r1 * 4)), some (zI 0)], [], M1, cl1) Q) ∧ (¬ (a2 ≤ 0) → (z_wi ((r1 * 4) + 3) 8) ∧ (zT 79 (37, [some (zR 12 0), some (zR 14 0), some (zI a2), some (zI (r1 * 4)), some (zI 0)], [], (z_w M1 13 0 (((r1 * 4) + 3).toNat) 0), false) Q))))) : zT 79 (0, [some (zR 12 0), some (zR 14 0), some (zI a2), none, none], [], M, true) Q := by
  refine zT.it 9 (t := (15, [some (zR 12 0), some (zR 14 0), some (zI a2), none, none], [zI 2, zI ((M.1 12 0 1) + 1)], (z_w M 12 0 1 ((M.1 12 0 1) + 1)), false)) rfl ?_
  refine zT.call (m := 30) (as := [zI ((M.1 12 0 1) + 1), zI 2]) (M := (z_w M 12 0 1 ((M.1 12 0 1) + 1))) (L := [some (zR 12 0), some (zR 14 0), some (zI a2), none, none]) (st := []) (pn := 18) (cl := false) rfl ?_
  refine zF.mono h (fun v M1 h cl1 => ?_)
  obtain ⟨r1, e1, h⟩ := h; subst e1; replace h := h cl1
  show zT 79 (18, [some (zR 12 0), some (zR 14 0), some (zI a2), none, none], [zI r1], M1, cl1) _
  refine zT.it 4 (t := (22, [some (zR 12 0), some (zR 14 0), some (zI a2), some (zI (r1 * 4)), none], [zI a2], M1, cl1)) rfl ?_
  refine zT.br (g := zr a2) (p := a2 ≤ 0) (t := (34, [some (zR 12 0), some (zR 14 0), some (zI a2), some (zI (r1 * 4)), none], [], M1, cl1)) (u := (25, [some (zR 12 0), some (zR 14 0), some (zI a2), some (zI (r1 * 4)), none], [], M1, cl1)) rfl h.1 (fun c => ?_) (fun c => ?_)
  · replace h := h.2.1 c
    refine zT.it 2 (t := (37, [some (zR 12 0), some (zR 14 0), some (zI a2), some (zI (r1 * 4)), some (zI 0)], [], M1, cl1)) rfl ?_
    exact h
  · replace h := h.2.2 c
    refine zT.it 6 (t := (33, [some (zR 12 0), some (zR 14 0), some (zI a2), some (zI (r1 * 4)), none], [zI 0, zI ((r1 * 4) + 3), zR 13 0], M1, cl1)) rfl ?_
    refine zT.chk (p := z_wi ((r1 * 4) + 3) 8) (t := (34, [some (zR 12 0), some (zR 14 0), some (zI a2), some (zI (r1 * 4)), none], [], (z_w M1 13 0 (((r1 * 4) + 3).toNat) 0), false)) rfl h.1 ?_
    replace h := h.2
    refine zT.it 2 (t := (37, [some (zR 12 0), some (zR 14 0), some (zI a2), some (zI (r1 * 4)), some (zI 0)], [], (z_w M1 13 0 (((r1 * 4) + 3).toNat) 0), false)) rfl ?_
    exact h
theorem g79_37a0_14 {x2 : Int} {x3 : Int} {M : zM} {cl : Bool} {Q : zQ} (h : (zr x2 ∧ zr 1) ∧ ((x2 ≤ 1 → zT 79 (37, [some (zR 12 0), some (zR 14 0), some (zI x2), some (zI x3), some (zI 1)], [], M, cl) Q) ∧ (¬ (x2 ≤ 1) → (z_wi (x3 + 0) 8) ∧ (zT 79 (37, [some (zR 12 0), some (zR 14 0), some (zI x2), some (zI x3), some (zI 1)], [], (z_w M 13 0 ((x3 + 0).toNat) (M.1 14 0 0)), false) Q)))) : zT 79 (37, [some (zR 12 0), some (zR 14 0), some (zI x2), some (zI x3), some (zI 0)], [], M, cl) Q := by
  refine zT.it 2 (t := (40, [some (zR 12 0), some (zR 14 0), some (zI x2), some (zI x3), some (zI 0)], [zI 3, zI 0], M, cl)) rfl ?_
  refine zT.br (g := zr 0 ∧ zr 3) (p := 3 ≤ 0) (t := (70, [some (zR 12 0), some (zR 14 0), some (zI x2), some (zI x3), some (zI 0)], [], M, cl)) (u := (43, [some (zR 12 0), some (zR 14 0), some (zI x2), some (zI x3), some (zI 0)], [], M, cl)) rfl (by decide) (fun c => absurd c (by decide)) (fun c => ?_)
  refine zT.it 4 (t := (48, [some (zR 12 0), some (zR 14 0), some (zI x2), some (zI x3), some (zI 0)], [zI 1, zI x2], M, cl)) rfl ?_
  refine zT.br (g := zr x2 ∧ zr 1) (p := x2 ≤ 1) (t := (64, [some (zR 12 0), some (zR 14 0), some (zI x2), some (zI x3), some (zI 0)], [], M, cl)) (u := (51, [some (zR 12 0), some (zR 14 0), some (zI x2), some (zI x3), some (zI 0)], [], M, cl)) rfl h.1 (fun c => ?_) (fun c => ?_)
  · replace h := h.2.1 c
    refine zT.it 2 (t := (37, [some (zR 12 0), some (zR 14 0), some (zI x2), some (zI x3), some (zI 1)], [], M, cl)) rfl ?_
    exact h
  · replace h := h.2.2 c
    refine zT.it 7 (t := (62, [some (zR 12 0), some (zR 14 0), some (zI x2), some (zI x3), some (zI 0)], [zI 0, zR 14 0, zI (x3 + 0), zR 13 0], M, cl)) rfl ?_
    refine zT.chk (t := (63, [some (zR 12 0), some (zR 14 0), some (zI x2), some (zI x3), some (zI 0)], [zI (M.1 14 0 0), zI (x3 + 0), zR 13 0], M, cl)) rfl (by first | decide | (dsimp only; decide)) ?_
    refine zT.chk (p := z_wi (x3 + 0) 8) (t := (64, [some (zR 12 0), some (zR 14 0), some (zI x2), some (zI x3), some (zI 0)], [], (z_w M 13 0 ((x3 + 0).toNat) (M.1 14 0 0)), false)) rfl h.1 ?_
    replace h := h.2
    refine zT.it 2 (t := (37, [some (zR 12 0), some (zR 14 0), some (zI x2), some (zI x3), some (zI 1)], [], (z_w M 13 0 ((x3 + 0).toNat) (M.1 14 0 0)), false)) rfl ?_
    exact h
theorem g79_37a1_14 {x2 : Int} {x3 : Int} {M : zM} {cl : Bool} {Q : zQ} (h : (zr x2 ∧ zr 2) ∧ ((x2 ≤ 2 → zT 79 (37, [some (zR 12 0), some (zR 14 0), some (zI x2), some (zI x3), some (zI 2)], [], M, cl) Q) ∧ (¬ (x2 ≤ 2) → (z_wi (x3 + 1) 8) ∧ (zT 79 (37, [some (zR 12 0), some (zR 14 0), some (zI x2), some (zI x3), some (zI 2)], [], (z_w M 13 0 ((x3 + 1).toNat) (M.1 14 0 1)), false) Q)))) : zT 79 (37, [some (zR 12 0), some (zR 14 0), some (zI x2), some (zI x3), some (zI 1)], [], M, cl) Q := by
  refine zT.it 2 (t := (40, [some (zR 12 0), some (zR 14 0), some (zI x2), some (zI x3), some (zI 1)], [zI 3, zI 1], M, cl)) rfl ?_
  refine zT.br (g := zr 1 ∧ zr 3) (p := 3 ≤ 1) (t := (70, [some (zR 12 0), some (zR 14 0), some (zI x2), some (zI x3), some (zI 1)], [], M, cl)) (u := (43, [some (zR 12 0), some (zR 14 0), some (zI x2), some (zI x3), some (zI 1)], [], M, cl)) rfl (by decide) (fun c => absurd c (by decide)) (fun c => ?_)
  refine zT.it 4 (t := (48, [some (zR 12 0), some (zR 14 0), some (zI x2), some (zI x3), some (zI 1)], [zI 2, zI x2], M, cl)) rfl ?_
  refine zT.br (g := zr x2 ∧ zr 2) (p := x2 ≤ 2) (t := (64, [some (zR 12 0), some (zR 14 0), some (zI x2), some (zI x3), some (zI 1)], [], M, cl)) (u := (51, [some (zR 12 0), some (zR 14 0), some (zI x2), some (zI x3), some (zI 1)], [], M, cl)) rfl h.1 (fun c => ?_) (fun c => ?_)
  · replace h := h.2.1 c
    refine zT.it 2 (t := (37, [some (zR 12 0), some (zR 14 0), some (zI x2), some (zI x3), some (zI 2)], [], M, cl)) rfl ?_
    exact h
  · replace h := h.2.2 c
    refine zT.it 7 (t := (62, [some (zR 12 0), some (zR 14 0), some (zI x2), some (zI x3), some (zI 1)], [zI 1, zR 14 0, zI (x3 + 1), zR 13 0], M, cl)) rfl ?_
    refine zT.chk (t := (63, [some (zR 12 0), some (zR 14 0), some (zI x2), some (zI x3), some (zI 1)], [zI (M.1 14 0 1), zI (x3 + 1), zR 13 0], M, cl)) rfl (by first | decide | (dsimp only; decide)) ?_
    refine zT.chk (p := z_wi (x3 + 1) 8) (t := (64, [some (zR 12 0), some (zR 14 0), some (zI x2), some (zI x3), some (zI 1)], [], (z_w M 13 0 ((x3 + 1).toNat) (M.1 14 0 1)), false)) rfl h.1 ?_
    replace h := h.2
    refine zT.it 2 (t := (37, [some (zR 12 0), some (zR 14 0), some (zI x2), some (zI x3), some (zI 2)], [], (z_w M 13 0 ((x3 + 1).toNat) (M.1 14 0 1)), false)) rfl ?_
    exact h
theorem g79_37a2_14 {x2 : Int} {x3 : Int} {M : zM} {cl : Bool} {Q : zQ} (h : (zr x2 ∧ zr 3) ∧ ((x2 ≤ 3 → zT 79 (37, [some (zR 12 0), some (zR 14 0), some (zI x2), some (zI x3), some (zI 3)], [], M, cl) Q) ∧ (¬ (x2 ≤ 3) → (z_wi (x3 + 2) 8) ∧ (zT 79 (37, [some (zR 12 0), some (zR 14 0), some (zI x2), some (zI x3), some (zI 3)], [], (z_w M 13 0 ((x3 + 2).toNat) (M.1 14 0 2)), false) Q)))) : zT 79 (37, [some (zR 12 0), some (zR 14 0), some (zI x2), some (zI x3), some (zI 2)], [], M, cl) Q := by
  refine zT.it 2 (t := (40, [some (zR 12 0), some (zR 14 0), some (zI x2), some (zI x3), some (zI 2)], [zI 3, zI 2], M, cl)) rfl ?_
  refine zT.br (g := zr 2 ∧ zr 3) (p := 3 ≤ 2) (t := (70, [some (zR 12 0), some (zR 14 0), some (zI x2), some (zI x3), some (zI 2)], [], M, cl)) (u := (43, [some (zR 12 0), some (zR 14 0), some (zI x2), some (zI x3), some (zI 2)], [], M, cl)) rfl (by decide) (fun c => absurd c (by decide)) (fun c => ?_)
  refine zT.it 4 (t := (48, [some (zR 12 0), some (zR 14 0), some (zI x2), some (zI x3), some (zI 2)], [zI 3, zI x2], M, cl)) rfl ?_
  refine zT.br (g := zr x2 ∧ zr 3) (p := x2 ≤ 3) (t := (64, [some (zR 12 0), some (zR 14 0), some (zI x2), some (zI x3), some (zI 2)], [], M, cl)) (u := (51, [some (zR 12 0), some (zR 14 0), some (zI x2), some (zI x3), some (zI 2)], [], M, cl)) rfl h.1 (fun c => ?_) (fun c => ?_)
  · replace h := h.2.1 c
    refine zT.it 2 (t := (37, [some (zR 12 0), some (zR 14 0), some (zI x2), some (zI x3), some (zI 3)], [], M, cl)) rfl ?_
    exact h
  · replace h := h.2.2 c
    refine zT.it 7 (t := (62, [some (zR 12 0), some (zR 14 0), some (zI x2), some (zI x3), some (zI 2)], [zI 2, zR 14 0, zI (x3 + 2), zR 13 0], M, cl)) rfl ?_
    refine zT.chk (t := (63, [some (zR 12 0), some (zR 14 0), some (zI x2), some (zI x3), some (zI 2)], [zI (M.1 14 0 2), zI (x3 + 2), zR 13 0], M, cl)) rfl (by first | decide | (dsimp only; decide)) ?_
    refine zT.chk (p := z_wi (x3 + 2) 8) (t := (64, [some (zR 12 0), some (zR 14 0), some (zI x2), some (zI x3), some (zI 2)], [], (z_w M 13 0 ((x3 + 2).toNat) (M.1 14 0 2)), false)) rfl h.1 ?_
    replace h := h.2
    refine zT.it 2 (t := (37, [some (zR 12 0), some (zR 14 0), some (zI x2), some (zI x3), some (zI 3)], [], (z_w M 13 0 ((x3 + 2).toNat) (M.1 14 0 2)), false)) rfl ?_
    exact h
theorem g79_37a3_14 {x2 : Int} {x3 : Int} {M : zM} {cl : Bool} {Q : zQ} (h : (zr x2 ∧ zr 5) ∧ ((x2 < 5 → Q (.inl none) M cl 0) ∧ (¬ (x2 < 5) → (z_wi (x3 + 3) 8) ∧ (Q (.inl none) (z_w M 13 0 ((x3 + 3).toNat) (M.1 12 0 1)) false 0)))) : zT 79 (37, [some (zR 12 0), some (zR 14 0), some (zI x2), some (zI x3), some (zI 3)], [], M, cl) Q := by
  refine zT.it 2 (t := (40, [some (zR 12 0), some (zR 14 0), some (zI x2), some (zI x3), some (zI 3)], [zI 3, zI 3], M, cl)) rfl ?_
  refine zT.br (g := zr 3 ∧ zr 3) (p := 3 ≤ 3) (t := (70, [some (zR 12 0), some (zR 14 0), some (zI x2), some (zI x3), some (zI 3)], [], M, cl)) (u := (43, [some (zR 12 0), some (zR 14 0), some (zI x2), some (zI x3), some (zI 3)], [], M, cl)) rfl (by decide) (fun c => ?_) (fun c => absurd (by decide) c)
  refine zT.it 2 (t := (72, [some (zR 12 0), some (zR 14 0), some (zI x2), some (zI x3), some (zI 3)], [zI 5, zI x2], M, cl)) rfl ?_
  refine zT.br (g := zr x2 ∧ zr 5) (p := x2 < 5) (t := (87, [some (zR 12 0), some (zR 14 0), some (zI x2), some (zI x3), some (zI 3)], [], M, cl)) (u := (75, [some (zR 12 0), some (zR 14 0), some (zI x2), some (zI x3), some (zI 3)], [], M, cl)) rfl h.1 (fun c => ?_) (fun c => ?_)
  · replace h := h.2.1 c
    exact zT.ret (v := none) rfl trivial h
  · replace h := h.2.2 c
    refine zT.it 7 (t := (86, [some (zR 12 0), some (zR 14 0), some (zI x2), some (zI x3), some (zI 3)], [zI (M.1 12 0 1), zI (x3 + 3), zR 13 0], M, cl)) rfl ?_
    refine zT.chk (p := z_wi (x3 + 3) 8) (t := (87, [some (zR 12 0), some (zR 14 0), some (zI x2), some (zI x3), some (zI 3)], [], (z_w M 13 0 ((x3 + 3).toNat) (M.1 12 0 1)), false)) rfl h.1 ?_
    replace h := h.2
    exact zT.ret (v := none) rfl trivial h
theorem g80_0 {M : zM} {Q : zQ} (h : Q (.inl (some (zI (M.1 8 0 3)))) (z_w (z_w M 8 0 3 0) 8 0 4 0) false 0) : zT 80 (0, [some (zR 8 0), none], [], M, true) Q := by
  refine zT.it 8 (t := (12, [some (zR 8 0), some (zI (M.1 8 0 3))], [zI 0, zR 8 0], (z_w M 8 0 3 0), false)) rfl ?_
  refine zT.chk (t := (15, [some (zR 8 0), some (zI (M.1 8 0 3))], [], (z_w (z_w M 8 0 3 0) 8 0 4 0), false)) rfl (by first | decide | (dsimp only; decide)) ?_
  refine zT.it 1 (t := (16, [some (zR 8 0), some (zI (M.1 8 0 3))], [zI (M.1 8 0 3)], (z_w (z_w M 8 0 3 0) 8 0 4 0), false)) rfl ?_
  exact zT.ret (v := some (zI (M.1 8 0 3))) rfl (by first | exact trivial | decide) h
theorem g81_0 {M : zM} {Q : zQ} (h : zF 80 [zR 8 0] (z_w M 0 0 9 0) (fun v M1 => ∃ r1 : Int, v = some (zI r1) ∧ ∀ cl1 : Bool, zF 40 [zR 14 0, zR 15 0] M1 (fun v M2 => v = none ∧ ∀ cl2 : Bool, zF 4 [zR 1 0] M2 (fun v M3 => ∃ r3 : Int, v = some (zI r3) ∧ ∀ cl3 : Bool, Q (.inl none) (z_w (z_w M3 0 0 15 (-1)) 0 0 11 0) false 0)))) : zT 81 (0, [some (zR 0 0)], [], M, true) Q := by
  refine zT.it 2 (t := (2, [some (zR 0 0)], [zI 0, zR 0 0], M, true)) rfl ?_
  refine zT.chk (t := (5, [some (zR 0 0)], [], (z_w M 0 0 9 0), false)) rfl (by first | decide | (dsimp only; decide)) ?_
  refine zT.it 2 (t := (9, [some (zR 0 0)], [zR 8 0], (z_w M 0 0 9 0), false)) rfl ?_
  refine zT.call (m := 80) (as := [zR 8 0]) (M := (z_w M 0 0 9 0)) (L := [some (zR 0 0)]) (st := []) (pn := 12) (cl := false) rfl ?_
  refine zF.mono h (fun v M1 h cl1 => ?_)
  obtain ⟨r1, e1, h⟩ := h; subst e1; replace h := h cl1
  show zT 81 (12, [some (zR 0 0)], [zI r1], M1, cl1) _
  refine zT.it 5 (t := (21, [some (zR 0 0)], [zR 15 0, zR 14 0], M1, cl1)) rfl ?_
  refine zT.call (m := 40) (as := [zR 14 0, zR 15 0]) (M := M1) (L := [some (zR 0 0)]) (st := []) (pn := 24) (cl := cl1) rfl ?_
  refine zF.mono h (fun v M2 h cl2 => ?_)
  obtain ⟨e2, h⟩ := h; subst e2; replace h := h cl2
  show zT 81 (24, [some (zR 0 0)], [], M2, cl2) _
  refine zT.it 2 (t := (28, [some (zR 0 0)], [zR 1 0], M2, cl2)) rfl ?_
  refine zT.call (m := 4) (as := [zR 1 0]) (M := M2) (L := [some (zR 0 0)]) (st := []) (pn := 31) (cl := cl2) rfl ?_
  refine zF.mono h (fun v M3 h cl3 => ?_)
  obtain ⟨r3, e3, h⟩ := h; subst e3; replace h := h cl3
  show zT 81 (31, [some (zR 0 0)], [zI r3], M3, cl3) _
  refine zT.it 6 (t := (39, [some (zR 0 0)], [zI 0, zR 0 0], (z_w M3 0 0 15 (-1)), false)) rfl ?_
  refine zT.chk (t := (42, [some (zR 0 0)], [], (z_w (z_w M3 0 0 15 (-1)) 0 0 11 0), false)) rfl (by first | decide | (dsimp only; decide)) ?_
  exact zT.ret (v := none) rfl trivial h
theorem g82_0 {M : zM} {Q : zQ} (h : zF 78 [zR 8 0] M (fun v M1 => v = none ∧ ∀ cl1 : Bool, (zr (M1.1 0 0 15) ∧ zr (-1)) ∧ (((M1.1 0 0 15) = (-1) → zF 79 [zR 12 0, zR 14 0, zI 5] M1 (fun v M2 => v = none ∧ ∀ cl2 : Bool, (zr (M2.1 0 0 11)) ∧ (((M2.1 0 0 11) = 0 → zF 71 [zR 8 0] M2 (fun v M3 => v = none ∧ ∀ cl3 : Bool, Q (.inl none) M3 cl3 0)) ∧ (¬ ((M2.1 0 0 11) = 0) → zF 38 [zR 8 0] M2 (fun v M4 => v = none ∧ ∀ cl4 : Bool, Q (.inl none) M4 cl4 0))))) ∧ (¬ ((M1.1 0 0 15) = (-1)) → zF 79 [zR 12 0, zR 14 0, zI (M1.1 0 0 15)] M1 (fun v M5 => v = none ∧ ∀ cl5 : Bool, zF 81 [zR 0 0] M5 (fun v M6 => v = none ∧ ∀ cl6 : Bool, Q (.inl none) M6 cl6 0)))))) : zT 82 (0, [some (zR 0 0)], [], M, true) Q := by
  refine zT.it 2 (t := (4, [some (zR 0 0)], [zR 8 0], M, true)) rfl ?_
  refine zT.call (m := 78) (as := [zR 8 0]) (M := M) (L := [some (zR 0 0)]) (st := []) (pn := 7) (cl := true) rfl ?_
  refine zF.mono h (fun v M1 h cl1 => ?_)
  obtain ⟨e1, h⟩ := h; subst e1; replace h := h cl1
  show zT 82 (7, [some (zR 0 0)], [], M1, cl1) _
  refine zT.it 3 (t := (12, [some (zR 0 0)], [zI (-1), zI (M1.1 0 0 15)], M1, cl1)) rfl ?_
  refine zT.br (g := zr (M1.1 0 0 15) ∧ zr (-1)) (p := (M1.1 0 0 15) = (-1)) (t := (35, [some (zR 0 0)], [], M1, cl1)) (u := (15, [some (zR 0 0)], [], M1, cl1)) rfl h.1 (fun c => ?_) (fun c => ?_)
  · replace h := h.2.1 c
    refine zT.it 5 (t := (44, [some (zR 0 0)], [zI 5, zR 14 0, zR 12 0], M1, cl1)) rfl ?_
    refine zT.call (m := 79) (as := [zR 12 0, zR 14 0, zI 5]) (M := M1) (L := [some (zR 0 0)]) (st := []) (pn := 47) (cl := cl1) rfl ?_
    refine zF.mono h (fun v M2 h cl2 => ?_)
    obtain ⟨e2, h⟩ := h; subst e2; replace h := h cl2
    show zT 82 (47, [some (zR 0 0)], [], M2, cl2) _
    refine zT.it 2 (t := (51, [some (zR 0 0)], [zI (M2.1 0 0 11)], M2, cl2)) rfl ?_
    refine zT.br (g := zr (M2.1 0 0 11)) (p := (M2.1 0 0 11) = 0) (t := (64, [some (zR 0 0)], [], M2, cl2)) (u := (54, [some (zR 0 0)], [], M2, cl2)) rfl h.1 (fun c => ?_) (fun c => ?_)
    · replace h := h.2.1 c
      refine zT.it 2 (t := (68, [some (zR 0 0)], [zR 8 0], M2, cl2)) rfl ?_
      refine zT.call (m := 71) (as := [zR 8 0]) (M := M2) (L := [some (zR 0 0)]) (st := []) (pn := 71) (cl := cl2) rfl ?_
      refine zF.mono h (fun v M3 h cl3 => ?_)
      obtain ⟨e3, h⟩ := h; subst e3; replace h := h cl3
      show zT 82 (71, [some (zR 0 0)], [], M3, cl3) _
      exact zT.ret (v := none) rfl trivial h
    · replace h := h.2.2 c
      refine zT.it 2 (t := (58, [some (zR 0 0)], [zR 8 0], M2, cl2)) rfl ?_
      refine zT.call (m := 38) (as := [zR 8 0]) (M := M2) (L := [some (zR 0 0)]) (st := []) (pn := 61) (cl := cl2) rfl ?_
      refine zF.mono h (fun v M4 h cl4 => ?_)
      obtain ⟨e4, h⟩ := h; subst e4; replace h := h cl4
      show zT 82 (61, [some (zR 0 0)], [], M4, cl4) _
      refine zT.it 1 (t := (71, [some (zR 0 0)], [], M4, cl4)) rfl ?_
      exact zT.ret (v := none) rfl trivial h
  · replace h := h.2.2 c
    refine zT.it 6 (t := (27, [some (zR 0 0)], [zI (M1.1 0 0 15), zR 14 0, zR 12 0], M1, cl1)) rfl ?_
    refine zT.call (m := 79) (as := [zR 12 0, zR 14 0, zI (M1.1 0 0 15)]) (M := M1) (L := [some (zR 0 0)]) (st := []) (pn := 30) (cl := cl1) rfl ?_
    refine zF.mono h (fun v M5 h cl5 => ?_)
    obtain ⟨e5, h⟩ := h; subst e5; replace h := h cl5
    show zT 82 (30, [some (zR 0 0)], [], M5, cl5) _
    refine zT.it 1 (t := (31, [some (zR 0 0)], [zR 0 0], M5, cl5)) rfl ?_
    refine zT.call (m := 81) (as := [zR 0 0]) (M := M5) (L := [some (zR 0 0)]) (st := []) (pn := 34) (cl := cl5) rfl ?_
    refine zF.mono h (fun v M6 h cl6 => ?_)
    obtain ⟨e6, h⟩ := h; subst e6; replace h := h cl6
    show zT 82 (34, [some (zR 0 0)], [], M6, cl6) _
    exact zT.ret (v := none) rfl trivial h
theorem g83_0 {M : zM} {Q : zQ} (h : zF 72 [zR 0 0] M (fun v M1 => v = none ∧ ∀ cl1 : Bool, (zr (M1.1 8 0 4)) ∧ (((M1.1 8 0 4) = 0 → Q (.inl (some (zI 0))) M1 cl1 0) ∧ (¬ ((M1.1 8 0 4) = 0) → zF 73 [zR 8 0] M1 (fun v M2 => ∃ r2 : Int, v = some (zI r2) ∧ ∀ cl2 : Bool, (zr r2) ∧ ((¬ r2 = 0 → zF 31 [zR 8 0, zI 0] M2 (fun v M3 => ∃ r3 : Nat, v = some (zR 10 r3) ∧ ∀ cl3 : Bool, zF 68 [zR 10 r3] M3 (fun v M4 => ∃ r4 : Int, v = some (zI r4) ∧ ∀ cl4 : Bool, (zr r4) ∧ ((r4 = 0 → zF 76 [zR 0 0] M4 (fun v M5 => ∃ r5 : Int, v = some (zI r5) ∧ ∀ cl5 : Bool, zF 77 [zR 8 0] M5 (fun v M6 => ∃ r6 : Int, v = some (zI r6) ∧ ∀ cl6 : Bool, (zr r6) ∧ ((r6 = 0 → Q (.inl (some (zI r5))) M6 cl6 0) ∧ (¬ (r6 = 0) → zF 82 [zR 0 0] M6 (fun v M7 => v = none ∧ ∀ cl7 : Bool, Q (.inl (some (zI r5))) M7 cl7 0)))))) ∧ (¬ (r4 = 0) → zF 77 [zR 8 0] M4 (fun v M8 => ∃ r8 : Int, v = some (zI r8) ∧ ∀ cl8 : Bool, (zr r8) ∧ ((r8 = 0 → Q (.inl (some (zI 0))) M8 cl8 0) ∧ (¬ (r8 = 0) → zF 82 [zR 0 0] M8 (fun v M9 => v = none ∧ ∀ cl9 : Bool, Q (.inl (some (zI 0))) M9 cl9 0))))))))) ∧ (r2 = 0 → Q (.inl (some (zI 0))) M2 cl2 0))))))) : zT 83 (0, [some (zR 0 0), none], [], M, true) Q := by
  refine zT.it 1 (t := (1, [some (zR 0 0), none], [zR 0 0], M, true)) rfl ?_
  refine zT.call (m := 72) (as := [zR 0 0]) (M := M) (L := [some (zR 0 0), none]) (st := []) (pn := 4) (cl := true) rfl ?_
  refine zF.mono h (fun v M1 h cl1 => ?_)
  obtain ⟨e1, h⟩ := h; subst e1; replace h := h cl1
  show zT 83 (4, [some (zR 0 0), none], [], M1, cl1) _
  refine zT.it 3 (t := (11, [some (zR 0 0), none], [zI (M1.1 8 0 4)], M1, cl1)) rfl ?_
  refine zT.br (g := zr (M1.1 8 0 4)) (p := (M1.1 8 0 4) = 0) (t := (24, [some (zR 0 0), none], [], M1, cl1)) (u := (14, [some (zR 0 0), none], [], M1, cl1)) rfl h.1 (fun c => ?_) (fun c => ?_)
  · replace h := h.2.1 c
    refine zT.it 1 (t := (25, [some (zR 0 0), none], [zI 0], M1, cl1)) rfl ?_
    exact zT.ret (v := some (zI 0)) rfl (by first | exact trivial | decide) h
  · replace h := h.2.2 c
    refine zT.it 2 (t := (18, [some (zR 0 0), none], [zR 8 0], M1, cl1)) rfl ?_
    refine zT.call (m := 73) (as := [zR 8 0]) (M := M1) (L := [some (zR 0 0), none]) (st := []) (pn := 21) (cl := cl1) rfl ?_
    refine zF.mono h (fun v M2 h cl2 => ?_)
    obtain ⟨r2, e2, h⟩ := h; subst e2; replace h := h cl2
    show zT 83 (21, [some (zR 0 0), none], [zI r2], M2, cl2) _
    refine zT.br (g := zr r2) (p := ¬ r2 = 0) (t := (26, [some (zR 0 0), none], [], M2, cl2)) (u := (24, [some (zR 0 0), none], [], M2, cl2)) rfl h.1 (fun c => ?_) (fun c => ?_)
    · replace h := h.2.1 c
      refine zT.it 3 (t := (31, [some (zR 0 0), none], [zI 0, zR 8 0], M2, cl2)) rfl ?_
      refine zT.call (m := 31) (as := [zR 8 0, zI 0]) (M := M2) (L := [some (zR 0 0), none]) (st := []) (pn := 34) (cl := cl2) rfl ?_
      refine zF.mono h (fun v M3 h cl3 => ?_)
      obtain ⟨r3, e3, h⟩ := h; subst e3; replace h := h cl3
      show zT 83 (34, [some (zR 0 0), none], [zR 10 r3], M3, cl3) _
      refine zT.call (m := 68) (as := [zR 10 r3]) (M := M3) (L := [some (zR 0 0), none]) (st := []) (pn := 37) (cl := cl3) rfl ?_
      refine zF.mono h (fun v M4 h cl4 => ?_)
      obtain ⟨r4, e4, h⟩ := h; subst e4; replace h := h cl4
      show zT 83 (37, [some (zR 0 0), none], [zI r4], M4, cl4) _
      refine zT.br (g := zr r4) (p := r4 = 0) (t := (44, [some (zR 0 0), none], [], M4, cl4)) (u := (40, [some (zR 0 0), none], [], M4, cl4)) rfl h.1 (fun c => ?_) (fun c => ?_)
      · replace h := h.2.1 c
        refine zT.it 1 (t := (45, [some (zR 0 0), none], [zR 0 0], M4, cl4)) rfl ?_
        refine zT.call (m := 76) (as := [zR 0 0]) (M := M4) (L := [some (zR 0 0), none]) (st := []) (pn := 48) (cl := cl4) rfl ?_
        refine zF.mono h (fun v M5 h cl5 => ?_)
        obtain ⟨r5, e5, h⟩ := h; subst e5; replace h := h cl5
        show zT 83 (48, [some (zR 0 0), none], [zI r5], M5, cl5) _
        refine zT.it 3 (t := (53, [some (zR 0 0), some (zI r5)], [zR 8 0], M5, cl5)) rfl ?_
        refine zT.call (m := 77) (as := [zR 8 0]) (M := M5) (L := [some (zR 0 0), some (zI r5)]) (st := []) (pn := 56) (cl := cl5) rfl ?_
        refine zF.mono h (fun v M6 h cl6 => ?_)
        obtain ⟨r6, e6, h⟩ := h; subst e6; replace h := h cl6
        show zT 83 (56, [some (zR 0 0), some (zI r5)], [zI r6], M6, cl6) _
        refine zT.br (g := zr r6) (p := r6 = 0) (t := (63, [some (zR 0 0), some (zI r5)], [], M6, cl6)) (u := (59, [some (zR 0 0), some (zI r5)], [], M6, cl6)) rfl h.1 (fun c => ?_) (fun c => ?_)
        · replace h := h.2.1 c
          refine zT.it 1 (t := (64, [some (zR 0 0), some (zI r5)], [zI r5], M6, cl6)) rfl ?_
          exact zT.ret (v := some (zI r5)) rfl (by first | exact trivial | decide) h
        · replace h := h.2.2 c
          refine zT.it 1 (t := (60, [some (zR 0 0), some (zI r5)], [zR 0 0], M6, cl6)) rfl ?_
          refine zT.call (m := 82) (as := [zR 0 0]) (M := M6) (L := [some (zR 0 0), some (zI r5)]) (st := []) (pn := 63) (cl := cl6) rfl ?_
          refine zF.mono h (fun v M7 h cl7 => ?_)
          obtain ⟨e7, h⟩ := h; subst e7; replace h := h cl7
          show zT 83 (63, [some (zR 0 0), some (zI r5)], [], M7, cl7) _
          refine zT.it 1 (t := (64, [some (zR 0 0), some (zI r5)], [zI r5], M7, cl7)) rfl ?_
          exact zT.ret (v := some (zI r5)) rfl (by first | exact trivial | decide) h
      · replace h := h.2.2 c
        refine zT.it 5 (t := (53, [some (zR 0 0), some (zI 0)], [zR 8 0], M4, cl4)) rfl ?_
        refine zT.call (m := 77) (as := [zR 8 0]) (M := M4) (L := [some (zR 0 0), some (zI 0)]) (st := []) (pn := 56) (cl := cl4) rfl ?_
        refine zF.mono h (fun v M8 h cl8 => ?_)
        obtain ⟨r8, e8, h⟩ := h; subst e8; replace h := h cl8
        show zT 83 (56, [some (zR 0 0), some (zI 0)], [zI r8], M8, cl8) _
        refine zT.br (g := zr r8) (p := r8 = 0) (t := (63, [some (zR 0 0), some (zI 0)], [], M8, cl8)) (u := (59, [some (zR 0 0), some (zI 0)], [], M8, cl8)) rfl h.1 (fun c => ?_) (fun c => ?_)
        · replace h := h.2.1 c
          refine zT.it 1 (t := (64, [some (zR 0 0), some (zI 0)], [zI 0], M8, cl8)) rfl ?_
          exact zT.ret (v := some (zI 0)) rfl (by first | exact trivial | decide) h
        · replace h := h.2.2 c
          refine zT.it 1 (t := (60, [some (zR 0 0), some (zI 0)], [zR 0 0], M8, cl8)) rfl ?_
          refine zT.call (m := 82) (as := [zR 0 0]) (M := M8) (L := [some (zR 0 0), some (zI 0)]) (st := []) (pn := 63) (cl := cl8) rfl ?_
          refine zF.mono h (fun v M9 h cl9 => ?_)
          obtain ⟨e9, h⟩ := h; subst e9; replace h := h cl9
          show zT 83 (63, [some (zR 0 0), some (zI 0)], [], M9, cl9) _
          refine zT.it 1 (t := (64, [some (zR 0 0), some (zI 0)], [zI 0], M9, cl9)) rfl ?_
          exact zT.ret (v := some (zI 0)) rfl (by first | exact trivial | decide) h
    · replace h := h.2.2 (Decidable.not_not.1 c)
      refine zT.it 1 (t := (25, [some (zR 0 0), none], [zI 0], M2, cl2)) rfl ?_
      exact zT.ret (v := some (zI 0)) rfl (by first | exact trivial | decide) h
theorem g84_0 {M : zM} {Q : zQ} (h : zX 7 [zR 0 0] M (fun v M1 c => c = true ∧ v = none ∧ zF 83 [zR 0 0] M1 (fun v M2 => ∃ r2 : Int, v = some (zI r2) ∧ ∀ cl2 : Bool, Q (.inl (some (zI r2))) M2 cl2 0)) (fun x M1 => Q (.inr x) M1 true 1)) : zT 84 (0, [some (zR 0 0)], [], M, true) Q := by
  refine zT.it 1 (t := (1, [some (zR 0 0)], [zR 0 0], M, true)) rfl ?_
  refine zT.callx (m := 7) (as := [zR 0 0]) (M := M) (L := [some (zR 0 0)]) (st := []) (pn := 4) (cl := true) rfl rfl rfl ?_
  refine zX.mono h (fun v M1 c h => ?_) (fun _ _ h => ⟨rfl, h⟩)
  obtain ⟨hc, e1, h⟩ := h; subst hc; subst e1
  show zT 84 (4, [some (zR 0 0)], [], M1, true) _
  refine zT.it 1 (t := (5, [some (zR 0 0)], [zR 0 0], M1, true)) rfl ?_
  refine zT.call (m := 83) (as := [zR 0 0]) (M := M1) (L := [some (zR 0 0)]) (st := []) (pn := 8) (cl := true) rfl ?_
  refine zF.mono h (fun v M2 h cl2 => ?_)
  obtain ⟨r2, e2, h⟩ := h; subst e2; replace h := h cl2
  show zT 84 (8, [some (zR 0 0)], [zI r2], M2, cl2) _
  exact zT.ret (v := some (zI r2)) rfl (by first | exact trivial | decide) h
theorem g85_0 {M : zM} {Q : zQ} (h : zX 84 [zR 0 0] M (fun v M1 c => ∃ r1 : Int, v = some (zI r1) ∧ ∀ cl1 : Bool, (zr r1) ∧ (Q (.inl (some (zI 0))) (z_wl M1 31 0 0 r1) false 0)) (fun x M1 => ∃ a, xm_hd 85 3 x = some a ∧ Q (.inl (some (zI a.toInt))) M1 true 1)) : zT 85 (0, [some (zR 0 0), some (zR 31 0), none], [], M, true) Q := by
  refine zT.it 3 (t := (3, [some (zR 0 0), some (zR 31 0), none], [zR 0 0, zI 0, zR 31 0], M, true)) rfl ?_
  refine zT.callh (m := 84) (as := [zR 0 0]) (M := M) (L := [some (zR 0 0), some (zR 31 0), none]) (st := [zI 0, zR 31 0]) (pn := 6) (cl := true) rfl ?_
  refine zX.mono h (fun v M1 c h => ?_) (fun _ _ h => h)
  obtain ⟨r1, e1, h⟩ := h; subst e1; replace h := h (true && c)
  generalize (true && c) = cl1 at h ⊢
  show zT 85 (6, [some (zR 0 0), some (zR 31 0), none], [zI r1, zI 0, zR 31 0], M1, cl1) _
  refine zT.chk (p := zr r1) (t := (7, [some (zR 0 0), some (zR 31 0), none], [zJ r1, zI 0, zR 31 0], M1, cl1)) rfl h.1 ?_
  replace h := h.2
  refine zT.chk (t := (8, [some (zR 0 0), some (zR 31 0), none], [], (z_wl M1 31 0 0 r1), false)) rfl (by first | decide | (dsimp only; decide)) ?_
  refine zT.it 2 (t := (15, [some (zR 0 0), some (zR 31 0), none], [zI 0], (z_wl M1 31 0 0 r1), false)) rfl ?_
  exact zT.ret (v := some (zI 0)) rfl (by first | exact trivial | decide) h
theorem g86_0 {a1 : Int} {a2 : Int} {M : zM} {Q : zQ} (h : (z_wi ((3 * a1) + 0) 27) ∧ ((zr (M.1 26 0 (((3 * a1) + 0).toNat))) ∧ ((z_wi ((3 * a2) + 0) 27) ∧ ((zr (M.1 26 0 (((3 * a2) + 0).toNat))) ∧ ((z_wi ((3 * a1) + 1) 27) ∧ ((zr (M.1 26 0 (((3 * a1) + 1).toNat))) ∧ ((z_wi ((3 * a2) + 1) 27) ∧ ((zr (M.1 26 0 (((3 * a2) + 1).toNat))) ∧ ((z_wi ((3 * a1) + 2) 27) ∧ ((zr (M.1 26 0 (((3 * a1) + 2).toNat))) ∧ ((z_wi ((3 * a2) + 2) 27) ∧ ((zr (M.1 26 0 (((3 * a2) + 2).toNat))) ∧ (Q (.inl (some (zJ (((0 + ((M.1 26 0 (((3 * a1) + 0).toNat)) * (M.1 26 0 (((3 * a2) + 0).toNat)))) + ((M.1 26 0 (((3 * a1) + 1).toNat)) * (M.1 26 0 (((3 * a2) + 1).toNat)))) + ((M.1 26 0 (((3 * a1) + 2).toNat)) * (M.1 26 0 (((3 * a2) + 2).toNat))))))) M true 0))))))))))))) : zT 86 (0, [some (zR 18 0), some (zI a1), some (zI a2), none, none, none], [], M, true) Q := by
  refine zT.it 6 (t := (8, [some (zR 18 0), some (zI a1), some (zI a2), some (zJ 0), none, some (zI 0)], [zI 3, zI 0], M, true)) rfl ?_
  refine zT.br (g := zr 0 ∧ zr 3) (p := 3 ≤ 0) (t := (45, [some (zR 18 0), some (zI a1), some (zI a2), some (zJ 0), none, some (zI 0)], [], M, true)) (u := (11, [some (zR 18 0), some (zI a1), some (zI a2), some (zJ 0), none, some (zI 0)], [], M, true)) rfl (by decide) (fun c => absurd c (by decide)) (fun c => ?_)
  refine zT.it 8 (t := (22, [some (zR 18 0), some (zI a1), some (zI a2), some (zJ 0), none, some (zI 0)], [zI ((3 * a1) + 0), zR 26 0, zJ 0], M, true)) rfl ?_
  refine zT.chk (p := z_wi ((3 * a1) + 0) 27) (t := (23, [some (zR 18 0), some (zI a1), some (zI a2), some (zJ 0), none, some (zI 0)], [zI (M.1 26 0 (((3 * a1) + 0).toNat)), zJ 0], M, true)) rfl h.1 ?_
  replace h := h.2
  refine zT.chk (p := zr (M.1 26 0 (((3 * a1) + 0).toNat))) (t := (24, [some (zR 18 0), some (zI a1), some (zI a2), some (zJ 0), none, some (zI 0)], [zJ (M.1 26 0 (((3 * a1) + 0).toNat)), zJ 0], M, true)) rfl h.1 ?_
  replace h := h.2
  refine zT.it 7 (t := (34, [some (zR 18 0), some (zI a1), some (zI a2), some (zJ 0), none, some (zI 0)], [zI ((3 * a2) + 0), zR 26 0, zJ (M.1 26 0 (((3 * a1) + 0).toNat)), zJ 0], M, true)) rfl ?_
  refine zT.chk (p := z_wi ((3 * a2) + 0) 27) (t := (35, [some (zR 18 0), some (zI a1), some (zI a2), some (zJ 0), none, some (zI 0)], [zI (M.1 26 0 (((3 * a2) + 0).toNat)), zJ (M.1 26 0 (((3 * a1) + 0).toNat)), zJ 0], M, true)) rfl h.1 ?_
  replace h := h.2
  refine zT.chk (p := zr (M.1 26 0 (((3 * a2) + 0).toNat))) (t := (36, [some (zR 18 0), some (zI a1), some (zI a2), some (zJ 0), none, some (zI 0)], [zJ (M.1 26 0 (((3 * a2) + 0).toNat)), zJ (M.1 26 0 (((3 * a1) + 0).toNat)), zJ 0], M, true)) rfl h.1 ?_
  replace h := h.2
  refine zT.it 7 (t := (8, [some (zR 18 0), some (zI a1), some (zI a2), some (zJ (0 + ((M.1 26 0 (((3 * a1) + 0).toNat)) * (M.1 26 0 (((3 * a2) + 0).toNat))))), none, some (zI 1)], [zI 3, zI 1], M, true)) rfl ?_
  refine zT.br (g := zr 1 ∧ zr 3) (p := 3 ≤ 1) (t := (45, [some (zR 18 0), some (zI a1), some (zI a2), some (zJ (0 + ((M.1 26 0 (((3 * a1) + 0).toNat)) * (M.1 26 0 (((3 * a2) + 0).toNat))))), none, some (zI 1)], [], M, true)) (u := (11, [some (zR 18 0), some (zI a1), some (zI a2), some (zJ (0 + ((M.1 26 0 (((3 * a1) + 0).toNat)) * (M.1 26 0 (((3 * a2) + 0).toNat))))), none, some (zI 1)], [], M, true)) rfl (by decide) (fun c => absurd c (by decide)) (fun c => ?_)
  refine zT.it 8 (t := (22, [some (zR 18 0), some (zI a1), some (zI a2), some (zJ (0 + ((M.1 26 0 (((3 * a1) + 0).toNat)) * (M.1 26 0 (((3 * a2) + 0).toNat))))), none, some (zI 1)], [zI ((3 * a1) + 1), zR 26 0, zJ (0 + ((M.1 26 0 (((3 * a1) + 0).toNat)) * (M.1 26 0 (((3 * a2) + 0).toNat))))], M, true)) rfl ?_
  refine zT.chk (p := z_wi ((3 * a1) + 1) 27) (t := (23, [some (zR 18 0), some (zI a1), some (zI a2), some (zJ (0 + ((M.1 26 0 (((3 * a1) + 0).toNat)) * (M.1 26 0 (((3 * a2) + 0).toNat))))), none, some (zI 1)], [zI (M.1 26 0 (((3 * a1) + 1).toNat)), zJ (0 + ((M.1 26 0 (((3 * a1) + 0).toNat)) * (M.1 26 0 (((3 * a2) + 0).toNat))))], M, true)) rfl h.1 ?_
  replace h := h.2
  refine zT.chk (p := zr (M.1 26 0 (((3 * a1) + 1).toNat))) (t := (24, [some (zR 18 0), some (zI a1), some (zI a2), some (zJ (0 + ((M.1 26 0 (((3 * a1) + 0).toNat)) * (M.1 26 0 (((3 * a2) + 0).toNat))))), none, some (zI 1)], [zJ (M.1 26 0 (((3 * a1) + 1).toNat)), zJ (0 + ((M.1 26 0 (((3 * a1) + 0).toNat)) * (M.1 26 0 (((3 * a2) + 0).toNat))))], M, true)) rfl h.1 ?_
  replace h := h.2
  refine zT.it 7 (t := (34, [some (zR 18 0), some (zI a1), some (zI a2), some (zJ (0 + ((M.1 26 0 (((3 * a1) + 0).toNat)) * (M.1 26 0 (((3 * a2) + 0).toNat))))), none, some (zI 1)], [zI ((3 * a2) + 1), zR 26 0, zJ (M.1 26 0 (((3 * a1) + 1).toNat)), zJ (0 + ((M.1 26 0 (((3 * a1) + 0).toNat)) * (M.1 26 0 (((3 * a2) + 0).toNat))))], M, true)) rfl ?_
  refine zT.chk (p := z_wi ((3 * a2) + 1) 27) (t := (35, [some (zR 18 0), some (zI a1), some (zI a2), some (zJ (0 + ((M.1 26 0 (((3 * a1) + 0).toNat)) * (M.1 26 0 (((3 * a2) + 0).toNat))))), none, some (zI 1)], [zI (M.1 26 0 (((3 * a2) + 1).toNat)), zJ (M.1 26 0 (((3 * a1) + 1).toNat)), zJ (0 + ((M.1 26 0 (((3 * a1) + 0).toNat)) * (M.1 26 0 (((3 * a2) + 0).toNat))))], M, true)) rfl h.1 ?_
  replace h := h.2
  refine zT.chk (p := zr (M.1 26 0 (((3 * a2) + 1).toNat))) (t := (36, [some (zR 18 0), some (zI a1), some (zI a2), some (zJ (0 + ((M.1 26 0 (((3 * a1) + 0).toNat)) * (M.1 26 0 (((3 * a2) + 0).toNat))))), none, some (zI 1)], [zJ (M.1 26 0 (((3 * a2) + 1).toNat)), zJ (M.1 26 0 (((3 * a1) + 1).toNat)), zJ (0 + ((M.1 26 0 (((3 * a1) + 0).toNat)) * (M.1 26 0 (((3 * a2) + 0).toNat))))], M, true)) rfl h.1 ?_
  replace h := h.2
  refine zT.it 7 (t := (8, [some (zR 18 0), some (zI a1), some (zI a2), some (zJ ((0 + ((M.1 26 0 (((3 * a1) + 0).toNat)) * (M.1 26 0 (((3 * a2) + 0).toNat)))) + ((M.1 26 0 (((3 * a1) + 1).toNat)) * (M.1 26 0 (((3 * a2) + 1).toNat))))), none, some (zI 2)], [zI 3, zI 2], M, true)) rfl ?_
  refine zT.br (g := zr 2 ∧ zr 3) (p := 3 ≤ 2) (t := (45, [some (zR 18 0), some (zI a1), some (zI a2), some (zJ ((0 + ((M.1 26 0 (((3 * a1) + 0).toNat)) * (M.1 26 0 (((3 * a2) + 0).toNat)))) + ((M.1 26 0 (((3 * a1) + 1).toNat)) * (M.1 26 0 (((3 * a2) + 1).toNat))))), none, some (zI 2)], [], M, true)) (u := (11, [some (zR 18 0), some (zI a1), some (zI a2), some (zJ ((0 + ((M.1 26 0 (((3 * a1) + 0).toNat)) * (M.1 26 0 (((3 * a2) + 0).toNat)))) + ((M.1 26 0 (((3 * a1) + 1).toNat)) * (M.1 26 0 (((3 * a2) + 1).toNat))))), none, some (zI 2)], [], M, true)) rfl (by decide) (fun c => absurd c (by decide)) (fun c => ?_)
  refine zT.it 8 (t := (22, [some (zR 18 0), some (zI a1), some (zI a2), some (zJ ((0 + ((M.1 26 0 (((3 * a1) + 0).toNat)) * (M.1 26 0 (((3 * a2) + 0).toNat)))) + ((M.1 26 0 (((3 * a1) + 1).toNat)) * (M.1 26 0 (((3 * a2) + 1).toNat))))), none, some (zI 2)], [zI ((3 * a1) + 2), zR 26 0, zJ ((0 + ((M.1 26 0 (((3 * a1) + 0).toNat)) * (M.1 26 0 (((3 * a2) + 0).toNat)))) + ((M.1 26 0 (((3 * a1) + 1).toNat)) * (M.1 26 0 (((3 * a2) + 1).toNat))))], M, true)) rfl ?_
  refine zT.chk (p := z_wi ((3 * a1) + 2) 27) (t := (23, [some (zR 18 0), some (zI a1), some (zI a2), some (zJ ((0 + ((M.1 26 0 (((3 * a1) + 0).toNat)) * (M.1 26 0 (((3 * a2) + 0).toNat)))) + ((M.1 26 0 (((3 * a1) + 1).toNat)) * (M.1 26 0 (((3 * a2) + 1).toNat))))), none, some (zI 2)], [zI (M.1 26 0 (((3 * a1) + 2).toNat)), zJ ((0 + ((M.1 26 0 (((3 * a1) + 0).toNat)) * (M.1 26 0 (((3 * a2) + 0).toNat)))) + ((M.1 26 0 (((3 * a1) + 1).toNat)) * (M.1 26 0 (((3 * a2) + 1).toNat))))], M, true)) rfl h.1 ?_
  replace h := h.2
  refine zT.chk (p := zr (M.1 26 0 (((3 * a1) + 2).toNat))) (t := (24, [some (zR 18 0), some (zI a1), some (zI a2), some (zJ ((0 + ((M.1 26 0 (((3 * a1) + 0).toNat)) * (M.1 26 0 (((3 * a2) + 0).toNat)))) + ((M.1 26 0 (((3 * a1) + 1).toNat)) * (M.1 26 0 (((3 * a2) + 1).toNat))))), none, some (zI 2)], [zJ (M.1 26 0 (((3 * a1) + 2).toNat)), zJ ((0 + ((M.1 26 0 (((3 * a1) + 0).toNat)) * (M.1 26 0 (((3 * a2) + 0).toNat)))) + ((M.1 26 0 (((3 * a1) + 1).toNat)) * (M.1 26 0 (((3 * a2) + 1).toNat))))], M, true)) rfl h.1 ?_
  replace h := h.2
  refine zT.it 7 (t := (34, [some (zR 18 0), some (zI a1), some (zI a2), some (zJ ((0 + ((M.1 26 0 (((3 * a1) + 0).toNat)) * (M.1 26 0 (((3 * a2) + 0).toNat)))) + ((M.1 26 0 (((3 * a1) + 1).toNat)) * (M.1 26 0 (((3 * a2) + 1).toNat))))), none, some (zI 2)], [zI ((3 * a2) + 2), zR 26 0, zJ (M.1 26 0 (((3 * a1) + 2).toNat)), zJ ((0 + ((M.1 26 0 (((3 * a1) + 0).toNat)) * (M.1 26 0 (((3 * a2) + 0).toNat)))) + ((M.1 26 0 (((3 * a1) + 1).toNat)) * (M.1 26 0 (((3 * a2) + 1).toNat))))], M, true)) rfl ?_
  refine zT.chk (p := z_wi ((3 * a2) + 2) 27) (t := (35, [some (zR 18 0), some (zI a1), some (zI a2), some (zJ ((0 + ((M.1 26 0 (((3 * a1) + 0).toNat)) * (M.1 26 0 (((3 * a2) + 0).toNat)))) + ((M.1 26 0 (((3 * a1) + 1).toNat)) * (M.1 26 0 (((3 * a2) + 1).toNat))))), none, some (zI 2)], [zI (M.1 26 0 (((3 * a2) + 2).toNat)), zJ (M.1 26 0 (((3 * a1) + 2).toNat)), zJ ((0 + ((M.1 26 0 (((3 * a1) + 0).toNat)) * (M.1 26 0 (((3 * a2) + 0).toNat)))) + ((M.1 26 0 (((3 * a1) + 1).toNat)) * (M.1 26 0 (((3 * a2) + 1).toNat))))], M, true)) rfl h.1 ?_
  replace h := h.2
  refine zT.chk (p := zr (M.1 26 0 (((3 * a2) + 2).toNat))) (t := (36, [some (zR 18 0), some (zI a1), some (zI a2), some (zJ ((0 + ((M.1 26 0 (((3 * a1) + 0).toNat)) * (M.1 26 0 (((3 * a2) + 0).toNat)))) + ((M.1 26 0 (((3 * a1) + 1).toNat)) * (M.1 26 0 (((3 * a2) + 1).toNat))))), none, some (zI 2)], [zJ (M.1 26 0 (((3 * a2) + 2).toNat)), zJ (M.1 26 0 (((3 * a1) + 2).toNat)), zJ ((0 + ((M.1 26 0 (((3 * a1) + 0).toNat)) * (M.1 26 0 (((3 * a2) + 0).toNat)))) + ((M.1 26 0 (((3 * a1) + 1).toNat)) * (M.1 26 0 (((3 * a2) + 1).toNat))))], M, true)) rfl h.1 ?_
  replace h := h.2
  refine zT.it 7 (t := (8, [some (zR 18 0), some (zI a1), some (zI a2), some (zJ (((0 + ((M.1 26 0 (((3 * a1) + 0).toNat)) * (M.1 26 0 (((3 * a2) + 0).toNat)))) + ((M.1 26 0 (((3 * a1) + 1).toNat)) * (M.1 26 0 (((3 * a2) + 1).toNat)))) + ((M.1 26 0 (((3 * a1) + 2).toNat)) * (M.1 26 0 (((3 * a2) + 2).toNat))))), none, some (zI 3)], [zI 3, zI 3], M, true)) rfl ?_
  refine zT.br (g := zr 3 ∧ zr 3) (p := 3 ≤ 3) (t := (45, [some (zR 18 0), some (zI a1), some (zI a2), some (zJ (((0 + ((M.1 26 0 (((3 * a1) + 0).toNat)) * (M.1 26 0 (((3 * a2) + 0).toNat)))) + ((M.1 26 0 (((3 * a1) + 1).toNat)) * (M.1 26 0 (((3 * a2) + 1).toNat)))) + ((M.1 26 0 (((3 * a1) + 2).toNat)) * (M.1 26 0 (((3 * a2) + 2).toNat))))), none, some (zI 3)], [], M, true)) (u := (11, [some (zR 18 0), some (zI a1), some (zI a2), some (zJ (((0 + ((M.1 26 0 (((3 * a1) + 0).toNat)) * (M.1 26 0 (((3 * a2) + 0).toNat)))) + ((M.1 26 0 (((3 * a1) + 1).toNat)) * (M.1 26 0 (((3 * a2) + 1).toNat)))) + ((M.1 26 0 (((3 * a1) + 2).toNat)) * (M.1 26 0 (((3 * a2) + 2).toNat))))), none, some (zI 3)], [], M, true)) rfl (by decide) (fun c => ?_) (fun c => absurd (by decide) c)
  refine zT.it 1 (t := (46, [some (zR 18 0), some (zI a1), some (zI a2), some (zJ (((0 + ((M.1 26 0 (((3 * a1) + 0).toNat)) * (M.1 26 0 (((3 * a2) + 0).toNat)))) + ((M.1 26 0 (((3 * a1) + 1).toNat)) * (M.1 26 0 (((3 * a2) + 1).toNat)))) + ((M.1 26 0 (((3 * a1) + 2).toNat)) * (M.1 26 0 (((3 * a2) + 2).toNat))))), none, some (zI 3)], [zJ (((0 + ((M.1 26 0 (((3 * a1) + 0).toNat)) * (M.1 26 0 (((3 * a2) + 0).toNat)))) + ((M.1 26 0 (((3 * a1) + 1).toNat)) * (M.1 26 0 (((3 * a2) + 1).toNat)))) + ((M.1 26 0 (((3 * a1) + 2).toNat)) * (M.1 26 0 (((3 * a2) + 2).toNat))))], M, true)) rfl ?_
  exact zT.ret (v := some (zJ (((0 + ((M.1 26 0 (((3 * a1) + 0).toNat)) * (M.1 26 0 (((3 * a2) + 0).toNat)))) + ((M.1 26 0 (((3 * a1) + 1).toNat)) * (M.1 26 0 (((3 * a2) + 1).toNat)))) + ((M.1 26 0 (((3 * a1) + 2).toNat)) * (M.1 26 0 (((3 * a2) + 2).toNat)))))) rfl trivial h
theorem g87_0 {a1 : Int} {M : zM} {Q : zQ} (h : (z_wi a1 9) ∧ ((zr (M.1 27 0 a1.toNat)) ∧ ((z_wi a1 9) ∧ ((zr (M.1 27 0 a1.toNat)) ∧ (Q (.inl (some (zJ ((M.1 27 0 a1.toNat) * (M.1 27 0 a1.toNat))))) M true 0))))) : zT 87 (0, [some (zR 18 0), some (zI a1)], [], M, true) Q := by
  refine zT.it 3 (t := (5, [some (zR 18 0), some (zI a1)], [zI a1, zR 27 0], M, true)) rfl ?_
  refine zT.chk (p := z_wi a1 9) (t := (6, [some (zR 18 0), some (zI a1)], [zI (M.1 27 0 a1.toNat)], M, true)) rfl h.1 ?_
  replace h := h.2
  refine zT.chk (p := zr (M.1 27 0 a1.toNat)) (t := (7, [some (zR 18 0), some (zI a1)], [zJ (M.1 27 0 a1.toNat)], M, true)) rfl h.1 ?_
  replace h := h.2
  refine zT.it 3 (t := (12, [some (zR 18 0), some (zI a1)], [zI a1, zR 27 0, zJ (M.1 27 0 a1.toNat)], M, true)) rfl ?_
  refine zT.chk (p := z_wi a1 9) (t := (13, [some (zR 18 0), some (zI a1)], [zI (M.1 27 0 a1.toNat), zJ (M.1 27 0 a1.toNat)], M, true)) rfl h.1 ?_
  replace h := h.2
  refine zT.chk (p := zr (M.1 27 0 a1.toNat)) (t := (14, [some (zR 18 0), some (zI a1)], [zJ (M.1 27 0 a1.toNat), zJ (M.1 27 0 a1.toNat)], M, true)) rfl h.1 ?_
  replace h := h.2
  refine zT.it 1 (t := (15, [some (zR 18 0), some (zI a1)], [zJ ((M.1 27 0 a1.toNat) * (M.1 27 0 a1.toNat))], M, true)) rfl ?_
  exact zT.ret (v := some (zJ ((M.1 27 0 a1.toNat) * (M.1 27 0 a1.toNat)))) rfl trivial h
theorem g88_0 {a1 : Int} {M : zM} {Q : zQ} (h : (z_wi a1 9) ∧ ((zr (M.1 27 0 a1.toNat)) ∧ (((M.1 27 0 a1.toNat) = 0 → zT 88 (32, [some (zR 18 0), some (zI a1), none, none, none, none, none, none], [zJ 0], M, true) Q) ∧ (¬ ((M.1 27 0 a1.toNat) = 0) → (z_wi (a1 - 1) 9) ∧ ((zr (M.1 27 0 ((a1 - 1).toNat))) ∧ ((¬ (M.1 27 0 ((a1 - 1).toNat)) = 0 → zF 86 [zR 18 0, zI a1, zI (a1 - 1)] M (fun v M1 => ∃ r1 : Int, v = some (zJ r1) ∧ ∀ cl1 : Bool, zT 88 (32, [some (zR 18 0), some (zI a1), none, none, none, none, none, none], [zJ r1], M1, cl1) Q)) ∧ ((M.1 27 0 ((a1 - 1).toNat)) = 0 → zT 88 (32, [some (zR 18 0), some (zI a1), none, none, none, none, none, none], [zJ 0], M, true) Q))))))) : zT 88 (0, [some (zR 18 0), some (zI a1), none, none, none, none, none, none], [], M, true) Q := by
  refine zT.it 3 (t := (5, [some (zR 18 0), some (zI a1), none, none, none, none, none, none], [zI a1, zR 27 0], M, true)) rfl ?_
  refine zT.chk (p := z_wi a1 9) (t := (6, [some (zR 18 0), some (zI a1), none, none, none, none, none, none], [zI (M.1 27 0 a1.toNat)], M, true)) rfl h.1 ?_
  replace h := h.2
  refine zT.br (g := zr (M.1 27 0 a1.toNat)) (p := (M.1 27 0 a1.toNat) = 0) (t := (20, [some (zR 18 0), some (zI a1), none, none, none, none, none, none], [], M, true)) (u := (9, [some (zR 18 0), some (zI a1), none, none, none, none, none, none], [], M, true)) rfl h.1 (fun c => ?_) (fun c => ?_)
  · replace h := h.2.1 c
    refine zT.it 2 (t := (32, [some (zR 18 0), some (zI a1), none, none, none, none, none, none], [zJ 0], M, true)) rfl ?_
    exact h
  · replace h := h.2.2 c
    refine zT.it 5 (t := (16, [some (zR 18 0), some (zI a1), none, none, none, none, none, none], [zI (a1 - 1), zR 27 0], M, true)) rfl ?_
    refine zT.chk (p := z_wi (a1 - 1) 9) (t := (17, [some (zR 18 0), some (zI a1), none, none, none, none, none, none], [zI (M.1 27 0 ((a1 - 1).toNat))], M, true)) rfl h.1 ?_
    replace h := h.2
    refine zT.br (g := zr (M.1 27 0 ((a1 - 1).toNat))) (p := ¬ (M.1 27 0 ((a1 - 1).toNat)) = 0) (t := (24, [some (zR 18 0), some (zI a1), none, none, none, none, none, none], [], M, true)) (u := (20, [some (zR 18 0), some (zI a1), none, none, none, none, none, none], [], M, true)) rfl h.1 (fun c => ?_) (fun c => ?_)
    · replace h := h.2.1 c
      refine zT.it 5 (t := (29, [some (zR 18 0), some (zI a1), none, none, none, none, none, none], [zI (a1 - 1), zI a1, zR 18 0], M, true)) rfl ?_
      refine zT.call (m := 86) (as := [zR 18 0, zI a1, zI (a1 - 1)]) (M := M) (L := [some (zR 18 0), some (zI a1), none, none, none, none, none, none]) (st := []) (pn := 32) (cl := true) rfl ?_
      refine zF.mono h (fun v M1 h cl1 => ?_)
      obtain ⟨r1, e1, h⟩ := h; subst e1; replace h := h cl1
      show zT 88 (32, [some (zR 18 0), some (zI a1), none, none, none, none, none, none], [zJ r1], M1, cl1) _
      exact h
    · replace h := h.2.2 (Decidable.not_not.1 c)
      refine zT.it 2 (t := (32, [some (zR 18 0), some (zI a1), none, none, none, none, none, none], [zJ 0], M, true)) rfl ?_
      exact h
theorem g88_32 {x1 : Int} {u2 : Option zV} {u3 : Option zV} {u4 : Option zV} {u5 : Option zV} {u6 : Option zV} {u7 : Option zV} {s0 : Int} {M : zM} {cl : Bool} {Q : zQ} (h : (zrl s0 ∧ zrl 0) ∧ ((0 < s0 → zF 87 [zR 18 0, zI x1] M (fun v M2 => ∃ r2 : Int, v = some (zJ r2) ∧ ∀ cl2 : Bool, zF 87 [zR 18 0, zI (x1 - 1)] M2 (fun v M3 => ∃ r3 : Int, v = some (zJ r3) ∧ ∀ cl3 : Bool, (zrl r2 ∧ zrl r3) ∧ ((r3 ≤ r2 → zF 87 [zR 18 0, zI (x1 - 1)] M3 (fun v M4 => ∃ r4 : Int, v = some (zJ r4) ∧ ∀ cl4 : Bool, zT 88 (72, [some (zR 18 0), some (zI x1), some (zJ s0), none, u4, u5, u6, u7], [zJ r4], M4, cl4) Q)) ∧ (¬ (r3 ≤ r2) → zF 87 [zR 18 0, zI x1] M3 (fun v M5 => ∃ r5 : Int, v = some (zJ r5) ∧ ∀ cl5 : Bool, zT 88 (72, [some (zR 18 0), some (zI x1), some (zJ s0), none, u4, u5, u6, u7], [zJ r5], M5, cl5) Q)))))) ∧ (¬ (0 < s0) → Q (.inl (some (zJ 0))) M cl 0))) : zT 88 (32, [some (zR 18 0), some (zI x1), u2, u3, u4, u5, u6, u7], [zJ s0], M, cl) Q := by
  refine zT.it 3 (t := (35, [some (zR 18 0), some (zI x1), some (zJ s0), none, u4, u5, u6, u7], [zJ 0, zJ s0], M, cl)) rfl ?_
  refine zT.chk (p := zrl s0 ∧ zrl 0) (t := (36, [some (zR 18 0), some (zI x1), some (zJ s0), none, u4, u5, u6, u7], [zI (z_cmp s0 0)], M, cl)) rfl h.1 ?_
  replace h := h.2
  refine zT.br (t := (41, [some (zR 18 0), some (zI x1), some (zJ s0), none, u4, u5, u6, u7], [], M, cl)) (u := (39, [some (zR 18 0), some (zI x1), some (zJ s0), none, u4, u5, u6, u7], [], M, cl)) rfl (z_cmp_r _ _) (fun c => ?_) (fun c => ?_)
  · replace h := h.1 (z_cmp_gt.1 c)
    refine zT.it 2 (t := (43, [some (zR 18 0), some (zI x1), some (zJ s0), none, u4, u5, u6, u7], [zI x1, zR 18 0], M, cl)) rfl ?_
    refine zT.call (m := 87) (as := [zR 18 0, zI x1]) (M := M) (L := [some (zR 18 0), some (zI x1), some (zJ s0), none, u4, u5, u6, u7]) (st := []) (pn := 46) (cl := cl) rfl ?_
    refine zF.mono h (fun v M2 h cl2 => ?_)
    obtain ⟨r2, e2, h⟩ := h; subst e2; replace h := h cl2
    show zT 88 (46, [some (zR 18 0), some (zI x1), some (zJ s0), none, u4, u5, u6, u7], [zJ r2], M2, cl2) _
    refine zT.it 4 (t := (50, [some (zR 18 0), some (zI x1), some (zJ s0), none, u4, u5, u6, u7], [zI (x1 - 1), zR 18 0, zJ r2], M2, cl2)) rfl ?_
    refine zT.call (m := 87) (as := [zR 18 0, zI (x1 - 1)]) (M := M2) (L := [some (zR 18 0), some (zI x1), some (zJ s0), none, u4, u5, u6, u7]) (st := [zJ r2]) (pn := 53) (cl := cl2) rfl ?_
    refine zF.mono h (fun v M3 h cl3 => ?_)
    obtain ⟨r3, e3, h⟩ := h; subst e3; replace h := h cl3
    show zT 88 (53, [some (zR 18 0), some (zI x1), some (zJ s0), none, u4, u5, u6, u7], [zJ r3, zJ r2], M3, cl3) _
    refine zT.chk (p := zrl r2 ∧ zrl r3) (t := (54, [some (zR 18 0), some (zI x1), some (zJ s0), none, u4, u5, u6, u7], [zI (z_cmp r2 r3)], M3, cl3)) rfl h.1 ?_
    replace h := h.2
    refine zT.br (t := (65, [some (zR 18 0), some (zI x1), some (zJ s0), none, u4, u5, u6, u7], [], M3, cl3)) (u := (57, [some (zR 18 0), some (zI x1), some (zJ s0), none, u4, u5, u6, u7], [], M3, cl3)) rfl (z_cmp_r _ _) (fun c => ?_) (fun c => ?_)
    · replace h := h.1 (z_cmp_ge.1 c)
      refine zT.it 4 (t := (69, [some (zR 18 0), some (zI x1), some (zJ s0), none, u4, u5, u6, u7], [zI (x1 - 1), zR 18 0], M3, cl3)) rfl ?_
      refine zT.call (m := 87) (as := [zR 18 0, zI (x1 - 1)]) (M := M3) (L := [some (zR 18 0), some (zI x1), some (zJ s0), none, u4, u5, u6, u7]) (st := []) (pn := 72) (cl := cl3) rfl ?_
      refine zF.mono h (fun v M4 h cl4 => ?_)
      obtain ⟨r4, e4, h⟩ := h; subst e4; replace h := h cl4
      show zT 88 (72, [some (zR 18 0), some (zI x1), some (zJ s0), none, u4, u5, u6, u7], [zJ r4], M4, cl4) _
      exact h
    · replace h := h.2 (fun d => c (z_cmp_ge.2 d))
      refine zT.it 2 (t := (59, [some (zR 18 0), some (zI x1), some (zJ s0), none, u4, u5, u6, u7], [zI x1, zR 18 0], M3, cl3)) rfl ?_
      refine zT.call (m := 87) (as := [zR 18 0, zI x1]) (M := M3) (L := [some (zR 18 0), some (zI x1), some (zJ s0), none, u4, u5, u6, u7]) (st := []) (pn := 62) (cl := cl3) rfl ?_
      refine zF.mono h (fun v M5 h cl5 => ?_)
      obtain ⟨r5, e5, h⟩ := h; subst e5; replace h := h cl5
      show zT 88 (62, [some (zR 18 0), some (zI x1), some (zJ s0), none, u4, u5, u6, u7], [zJ r5], M5, cl5) _
      refine zT.it 1 (t := (72, [some (zR 18 0), some (zI x1), some (zJ s0), none, u4, u5, u6, u7], [zJ r5], M5, cl5)) rfl ?_
      exact h
  · replace h := h.2 (fun d => c (z_cmp_gt.2 d))
    refine zT.it 1 (t := (40, [some (zR 18 0), some (zI x1), some (zJ s0), none, u4, u5, u6, u7], [zJ 0], M, cl)) rfl ?_
    exact zT.ret (v := some (zJ 0)) rfl trivial h
theorem g88_72 {x1 : Int} {x2 : Int} {u4 : Option zV} {u5 : Option zV} {u6 : Option zV} {u7 : Option zV} {s0 : Int} {M : zM} {cl : Bool} {Q : zQ} (h : zF 86 [zR 18 0, zI x1, zI x1] M (fun v M6 => ∃ r6 : Int, v = some (zJ r6) ∧ ∀ cl6 : Bool, zF 86 [zR 18 0, zI (x1 - 1), zI (x1 - 1)] M6 (fun v M7 => ∃ r7 : Int, v = some (zJ r7) ∧ ∀ cl7 : Bool, (z_dvl ((s0 * x2) * x2) (r6 * r7)) ∧ (zF 87 [zR 18 0, zI x1] M7 (fun v M8 => ∃ r8 : Int, v = some (zJ r8) ∧ ∀ cl8 : Bool, (zrl (((s0 * x2) * x2) / (r6 * r7)) ∧ zrl r8) ∧ ((r8 ≤ (((s0 * x2) * x2) / (r6 * r7)) → zF 87 [zR 18 0, zI x1] M8 (fun v M9 => ∃ r9 : Int, v = some (zJ r9) ∧ ∀ cl9 : Bool, Q (.inl (some (zJ r9))) M9 cl9 0)) ∧ (¬ (r8 ≤ (((s0 * x2) * x2) / (r6 * r7))) → Q (.inl (some (zJ (((s0 * x2) * x2) / (r6 * r7))))) M8 cl8 0))))))) : zT 88 (72, [some (zR 18 0), some (zI x1), some (zJ x2), none, u4, u5, u6, u7], [zJ s0], M, cl) Q := by
  refine zT.it 9 (t := (83, [some (zR 18 0), some (zI x1), some (zJ x2), none, some (zJ s0), none, u6, u7], [zI x1, zI x1, zR 18 0, zJ ((s0 * x2) * x2)], M, cl)) rfl ?_
  refine zT.call (m := 86) (as := [zR 18 0, zI x1, zI x1]) (M := M) (L := [some (zR 18 0), some (zI x1), some (zJ x2), none, some (zJ s0), none, u6, u7]) (st := [zJ ((s0 * x2) * x2)]) (pn := 86) (cl := cl) rfl ?_
  refine zF.mono h (fun v M6 h cl6 => ?_)
  obtain ⟨r6, e6, h⟩ := h; subst e6; replace h := h cl6
  show zT 88 (86, [some (zR 18 0), some (zI x1), some (zJ x2), none, some (zJ s0), none, u6, u7], [zJ r6, zJ ((s0 * x2) * x2)], M6, cl6) _
  refine zT.it 7 (t := (93, [some (zR 18 0), some (zI x1), some (zJ x2), none, some (zJ s0), none, u6, u7], [zI (x1 - 1), zI (x1 - 1), zR 18 0, zJ r6, zJ ((s0 * x2) * x2)], M6, cl6)) rfl ?_
  refine zT.call (m := 86) (as := [zR 18 0, zI (x1 - 1), zI (x1 - 1)]) (M := M6) (L := [some (zR 18 0), some (zI x1), some (zJ x2), none, some (zJ s0), none, u6, u7]) (st := [zJ r6, zJ ((s0 * x2) * x2)]) (pn := 96) (cl := cl6) rfl ?_
  refine zF.mono h (fun v M7 h cl7 => ?_)
  obtain ⟨r7, e7, h⟩ := h; subst e7; replace h := h cl7
  show zT 88 (96, [some (zR 18 0), some (zI x1), some (zJ x2), none, some (zJ s0), none, u6, u7], [zJ r7, zJ r6, zJ ((s0 * x2) * x2)], M7, cl7) _
  refine zT.it 1 (t := (97, [some (zR 18 0), some (zI x1), some (zJ x2), none, some (zJ s0), none, u6, u7], [zJ (r6 * r7), zJ ((s0 * x2) * x2)], M7, cl7)) rfl ?_
  refine zT.chk (p := z_dvl ((s0 * x2) * x2) (r6 * r7)) (t := (98, [some (zR 18 0), some (zI x1), some (zJ x2), none, some (zJ s0), none, u6, u7], [zJ (((s0 * x2) * x2) / (r6 * r7))], M7, cl7)) rfl h.1 ?_
  replace h := h.2
  refine zT.it 4 (t := (104, [some (zR 18 0), some (zI x1), some (zJ x2), none, some (zJ s0), none, some (zJ (((s0 * x2) * x2) / (r6 * r7))), none], [zI x1, zR 18 0, zJ (((s0 * x2) * x2) / (r6 * r7))], M7, cl7)) rfl ?_
  refine zT.call (m := 87) (as := [zR 18 0, zI x1]) (M := M7) (L := [some (zR 18 0), some (zI x1), some (zJ x2), none, some (zJ s0), none, some (zJ (((s0 * x2) * x2) / (r6 * r7))), none]) (st := [zJ (((s0 * x2) * x2) / (r6 * r7))]) (pn := 107) (cl := cl7) rfl ?_
  refine zF.mono h (fun v M8 h cl8 => ?_)
  obtain ⟨r8, e8, h⟩ := h; subst e8; replace h := h cl8
  show zT 88 (107, [some (zR 18 0), some (zI x1), some (zJ x2), none, some (zJ s0), none, some (zJ (((s0 * x2) * x2) / (r6 * r7))), none], [zJ r8, zJ (((s0 * x2) * x2) / (r6 * r7))], M8, cl8) _
  refine zT.chk (p := zrl (((s0 * x2) * x2) / (r6 * r7)) ∧ zrl r8) (t := (108, [some (zR 18 0), some (zI x1), some (zJ x2), none, some (zJ s0), none, some (zJ (((s0 * x2) * x2) / (r6 * r7))), none], [zI (z_cmp (((s0 * x2) * x2) / (r6 * r7)) r8)], M8, cl8)) rfl h.1 ?_
  replace h := h.2
  refine zT.br (t := (116, [some (zR 18 0), some (zI x1), some (zJ x2), none, some (zJ s0), none, some (zJ (((s0 * x2) * x2) / (r6 * r7))), none], [], M8, cl8)) (u := (111, [some (zR 18 0), some (zI x1), some (zJ x2), none, some (zJ s0), none, some (zJ (((s0 * x2) * x2) / (r6 * r7))), none], [], M8, cl8)) rfl (z_cmp_r _ _) (fun c => ?_) (fun c => ?_)
  · replace h := h.1 (z_cmp_ge.1 c)
    refine zT.it 2 (t := (118, [some (zR 18 0), some (zI x1), some (zJ x2), none, some (zJ s0), none, some (zJ (((s0 * x2) * x2) / (r6 * r7))), none], [zI x1, zR 18 0], M8, cl8)) rfl ?_
    refine zT.call (m := 87) (as := [zR 18 0, zI x1]) (M := M8) (L := [some (zR 18 0), some (zI x1), some (zJ x2), none, some (zJ s0), none, some (zJ (((s0 * x2) * x2) / (r6 * r7))), none]) (st := []) (pn := 121) (cl := cl8) rfl ?_
    refine zF.mono h (fun v M9 h cl9 => ?_)
    obtain ⟨r9, e9, h⟩ := h; subst e9; replace h := h cl9
    show zT 88 (121, [some (zR 18 0), some (zI x1), some (zJ x2), none, some (zJ s0), none, some (zJ (((s0 * x2) * x2) / (r6 * r7))), none], [zJ r9], M9, cl9) _
    exact zT.ret (v := some (zJ r9)) rfl trivial h
  · replace h := h.2 (fun d => c (z_cmp_ge.2 d))
    refine zT.it 2 (t := (121, [some (zR 18 0), some (zI x1), some (zJ x2), none, some (zJ s0), none, some (zJ (((s0 * x2) * x2) / (r6 * r7))), none], [zJ (((s0 * x2) * x2) / (r6 * r7))], M8, cl8)) rfl ?_
    exact zT.ret (v := some (zJ (((s0 * x2) * x2) / (r6 * r7)))) rfl trivial h
theorem g89_0 {a1 : Int} {M : zM} {Q : zQ} (h : zT 89 (4, [some (zR 18 0), some (zI a1), some (zI 0), some (zI 0)], [], M, true) Q) : zT 89 (0, [some (zR 18 0), some (zI a1), none, none], [], M, true) Q := by
  refine zT.it 4 (t := (4, [some (zR 18 0), some (zI a1), some (zI 0), some (zI 0)], [], M, true)) rfl ?_
  exact h
theorem g89_4a0 {x1 : Int} {x2 : Int} {M : zM} {cl : Bool} {Q : zQ} (h : (z_wi x1 9) ∧ ((zr (M.1 27 0 x1.toNat)) ∧ (((M.1 27 0 x1.toNat) ≤ 0 → Q (.inl (some (zI x2))) M cl 0) ∧ (¬ ((M.1 27 0 x1.toNat) ≤ 0) → (z_wi ((3 * x1) + 0) 27) ∧ (zF 59 [zI (M.1 26 0 (((3 * x1) + 0).toNat))] M (fun v M1 => ∃ r1 : Int, v = some (zI r1) ∧ ∀ cl1 : Bool, (zr r1 ∧ zr x2) ∧ ((r1 ≤ x2 → zT 89 (4, [some (zR 18 0), some (zI x1), some (zI x2), some (zI 1)], [], M1, cl1) Q) ∧ (¬ (r1 ≤ x2) → (z_wi ((3 * x1) + 0) 27) ∧ (zF 59 [zI (M1.1 26 0 (((3 * x1) + 0).toNat))] M1 (fun v M2 => ∃ r2 : Int, v = some (zI r2) ∧ ∀ cl2 : Bool, zT 89 (4, [some (zR 18 0), some (zI x1), some (zI r2), some (zI 1)], [], M2, cl2) Q)))))))))) : zT 89 (4, [some (zR 18 0), some (zI x1), some (zI x2), some (zI 0)], [], M, cl) Q := by
  refine zT.it 2 (t := (6, [some (zR 18 0), some (zI x1), some (zI x2), some (zI 0)], [zI 3, zI 0], M, cl)) rfl ?_
  refine zT.br (g := zr 0 ∧ zr 3) (p := 3 ≤ 0) (t := (59, [some (zR 18 0), some (zI x1), some (zI x2), some (zI 0)], [], M, cl)) (u := (9, [some (zR 18 0), some (zI x1), some (zI x2), some (zI 0)], [], M, cl)) rfl (by decide) (fun c => absurd c (by decide)) (fun c => ?_)
  refine zT.it 3 (t := (14, [some (zR 18 0), some (zI x1), some (zI x2), some (zI 0)], [zI x1, zR 27 0], M, cl)) rfl ?_
  refine zT.chk (p := z_wi x1 9) (t := (15, [some (zR 18 0), some (zI x1), some (zI x2), some (zI 0)], [zI (M.1 27 0 x1.toNat)], M, cl)) rfl h.1 ?_
  replace h := h.2
  refine zT.br (g := zr (M.1 27 0 x1.toNat)) (p := (M.1 27 0 x1.toNat) ≤ 0) (t := (59, [some (zR 18 0), some (zI x1), some (zI x2), some (zI 0)], [], M, cl)) (u := (18, [some (zR 18 0), some (zI x1), some (zI x2), some (zI 0)], [], M, cl)) rfl h.1 (fun c => ?_) (fun c => ?_)
  · replace h := h.2.1 c
    refine zT.it 1 (t := (60, [some (zR 18 0), some (zI x1), some (zI x2), some (zI 0)], [zI x2], M, cl)) rfl ?_
    exact zT.ret (v := some (zI x2)) rfl (by first | exact trivial | decide) h
  · replace h := h.2.2 c
    refine zT.it 7 (t := (27, [some (zR 18 0), some (zI x1), some (zI x2), some (zI 0)], [zI ((3 * x1) + 0), zR 26 0], M, cl)) rfl ?_
    refine zT.chk (p := z_wi ((3 * x1) + 0) 27) (t := (28, [some (zR 18 0), some (zI x1), some (zI x2), some (zI 0)], [zI (M.1 26 0 (((3 * x1) + 0).toNat))], M, cl)) rfl h.1 ?_
    replace h := h.2
    refine zT.call (m := 59) (as := [zI (M.1 26 0 (((3 * x1) + 0).toNat))]) (M := M) (L := [some (zR 18 0), some (zI x1), some (zI x2), some (zI 0)]) (st := []) (pn := 31) (cl := cl) rfl ?_
    refine zF.mono h (fun v M1 h cl1 => ?_)
    obtain ⟨r1, e1, h⟩ := h; subst e1; replace h := h cl1
    show zT 89 (31, [some (zR 18 0), some (zI x1), some (zI x2), some (zI 0)], [zI r1], M1, cl1) _
    refine zT.it 1 (t := (32, [some (zR 18 0), some (zI x1), some (zI x2), some (zI 0)], [zI x2, zI r1], M1, cl1)) rfl ?_
    refine zT.br (g := zr r1 ∧ zr x2) (p := r1 ≤ x2) (t := (51, [some (zR 18 0), some (zI x1), some (zI x2), some (zI 0)], [], M1, cl1)) (u := (35, [some (zR 18 0), some (zI x1), some (zI x2), some (zI 0)], [], M1, cl1)) rfl h.1 (fun c => ?_) (fun c => ?_)
    · replace h := h.2.1 c
      refine zT.it 4 (t := (4, [some (zR 18 0), some (zI x1), some (zI x2), some (zI 1)], [], M1, cl1)) rfl ?_
      exact h
    · replace h := h.2.2 c
      refine zT.it 7 (t := (44, [some (zR 18 0), some (zI x1), some (zI x2), some (zI 0)], [zI ((3 * x1) + 0), zR 26 0], M1, cl1)) rfl ?_
      refine zT.chk (p := z_wi ((3 * x1) + 0) 27) (t := (45, [some (zR 18 0), some (zI x1), some (zI x2), some (zI 0)], [zI (M1.1 26 0 (((3 * x1) + 0).toNat))], M1, cl1)) rfl h.1 ?_
      replace h := h.2
      refine zT.call (m := 59) (as := [zI (M1.1 26 0 (((3 * x1) + 0).toNat))]) (M := M1) (L := [some (zR 18 0), some (zI x1), some (zI x2), some (zI 0)]) (st := []) (pn := 48) (cl := cl1) rfl ?_
      refine zF.mono h (fun v M2 h cl2 => ?_)
      obtain ⟨r2, e2, h⟩ := h; subst e2; replace h := h cl2
      show zT 89 (48, [some (zR 18 0), some (zI x1), some (zI x2), some (zI 0)], [zI r2], M2, cl2) _
      refine zT.it 4 (t := (4, [some (zR 18 0), some (zI x1), some (zI r2), some (zI 1)], [], M2, cl2)) rfl ?_
      exact h
theorem g89_4a1 {x1 : Int} {x2 : Int} {M : zM} {cl : Bool} {Q : zQ} (h : (z_wi x1 9) ∧ ((zr (M.1 27 0 x1.toNat)) ∧ (((M.1 27 0 x1.toNat) ≤ 0 → Q (.inl (some (zI x2))) M cl 0) ∧ (¬ ((M.1 27 0 x1.toNat) ≤ 0) → (z_wi ((3 * x1) + 1) 27) ∧ (zF 59 [zI (M.1 26 0 (((3 * x1) + 1).toNat))] M (fun v M3 => ∃ r3 : Int, v = some (zI r3) ∧ ∀ cl3 : Bool, (zr r3 ∧ zr x2) ∧ ((r3 ≤ x2 → zT 89 (4, [some (zR 18 0), some (zI x1), some (zI x2), some (zI 2)], [], M3, cl3) Q) ∧ (¬ (r3 ≤ x2) → (z_wi ((3 * x1) + 1) 27) ∧ (zF 59 [zI (M3.1 26 0 (((3 * x1) + 1).toNat))] M3 (fun v M4 => ∃ r4 : Int, v = some (zI r4) ∧ ∀ cl4 : Bool, zT 89 (4, [some (zR 18 0), some (zI x1), some (zI r4), some (zI 2)], [], M4, cl4) Q)))))))))) : zT 89 (4, [some (zR 18 0), some (zI x1), some (zI x2), some (zI 1)], [], M, cl) Q := by
  refine zT.it 2 (t := (6, [some (zR 18 0), some (zI x1), some (zI x2), some (zI 1)], [zI 3, zI 1], M, cl)) rfl ?_
  refine zT.br (g := zr 1 ∧ zr 3) (p := 3 ≤ 1) (t := (59, [some (zR 18 0), some (zI x1), some (zI x2), some (zI 1)], [], M, cl)) (u := (9, [some (zR 18 0), some (zI x1), some (zI x2), some (zI 1)], [], M, cl)) rfl (by decide) (fun c => absurd c (by decide)) (fun c => ?_)
  refine zT.it 3 (t := (14, [some (zR 18 0), some (zI x1), some (zI x2), some (zI 1)], [zI x1, zR 27 0], M, cl)) rfl ?_
  refine zT.chk (p := z_wi x1 9) (t := (15, [some (zR 18 0), some (zI x1), some (zI x2), some (zI 1)], [zI (M.1 27 0 x1.toNat)], M, cl)) rfl h.1 ?_
  replace h := h.2
  refine zT.br (g := zr (M.1 27 0 x1.toNat)) (p := (M.1 27 0 x1.toNat) ≤ 0) (t := (59, [some (zR 18 0), some (zI x1), some (zI x2), some (zI 1)], [], M, cl)) (u := (18, [some (zR 18 0), some (zI x1), some (zI x2), some (zI 1)], [], M, cl)) rfl h.1 (fun c => ?_) (fun c => ?_)
  · replace h := h.2.1 c
    refine zT.it 1 (t := (60, [some (zR 18 0), some (zI x1), some (zI x2), some (zI 1)], [zI x2], M, cl)) rfl ?_
    exact zT.ret (v := some (zI x2)) rfl (by first | exact trivial | decide) h
  · replace h := h.2.2 c
    refine zT.it 7 (t := (27, [some (zR 18 0), some (zI x1), some (zI x2), some (zI 1)], [zI ((3 * x1) + 1), zR 26 0], M, cl)) rfl ?_
    refine zT.chk (p := z_wi ((3 * x1) + 1) 27) (t := (28, [some (zR 18 0), some (zI x1), some (zI x2), some (zI 1)], [zI (M.1 26 0 (((3 * x1) + 1).toNat))], M, cl)) rfl h.1 ?_
    replace h := h.2
    refine zT.call (m := 59) (as := [zI (M.1 26 0 (((3 * x1) + 1).toNat))]) (M := M) (L := [some (zR 18 0), some (zI x1), some (zI x2), some (zI 1)]) (st := []) (pn := 31) (cl := cl) rfl ?_
    refine zF.mono h (fun v M3 h cl3 => ?_)
    obtain ⟨r3, e3, h⟩ := h; subst e3; replace h := h cl3
    show zT 89 (31, [some (zR 18 0), some (zI x1), some (zI x2), some (zI 1)], [zI r3], M3, cl3) _
    refine zT.it 1 (t := (32, [some (zR 18 0), some (zI x1), some (zI x2), some (zI 1)], [zI x2, zI r3], M3, cl3)) rfl ?_
    refine zT.br (g := zr r3 ∧ zr x2) (p := r3 ≤ x2) (t := (51, [some (zR 18 0), some (zI x1), some (zI x2), some (zI 1)], [], M3, cl3)) (u := (35, [some (zR 18 0), some (zI x1), some (zI x2), some (zI 1)], [], M3, cl3)) rfl h.1 (fun c => ?_) (fun c => ?_)
    · replace h := h.2.1 c
      refine zT.it 4 (t := (4, [some (zR 18 0), some (zI x1), some (zI x2), some (zI 2)], [], M3, cl3)) rfl ?_
      exact h
    · replace h := h.2.2 c
      refine zT.it 7 (t := (44, [some (zR 18 0), some (zI x1), some (zI x2), some (zI 1)], [zI ((3 * x1) + 1), zR 26 0], M3, cl3)) rfl ?_
      refine zT.chk (p := z_wi ((3 * x1) + 1) 27) (t := (45, [some (zR 18 0), some (zI x1), some (zI x2), some (zI 1)], [zI (M3.1 26 0 (((3 * x1) + 1).toNat))], M3, cl3)) rfl h.1 ?_
      replace h := h.2
      refine zT.call (m := 59) (as := [zI (M3.1 26 0 (((3 * x1) + 1).toNat))]) (M := M3) (L := [some (zR 18 0), some (zI x1), some (zI x2), some (zI 1)]) (st := []) (pn := 48) (cl := cl3) rfl ?_
      refine zF.mono h (fun v M4 h cl4 => ?_)
      obtain ⟨r4, e4, h⟩ := h; subst e4; replace h := h cl4
      show zT 89 (48, [some (zR 18 0), some (zI x1), some (zI x2), some (zI 1)], [zI r4], M4, cl4) _
      refine zT.it 4 (t := (4, [some (zR 18 0), some (zI x1), some (zI r4), some (zI 2)], [], M4, cl4)) rfl ?_
      exact h
theorem g89_4a2 {x1 : Int} {x2 : Int} {M : zM} {cl : Bool} {Q : zQ} (h : (z_wi x1 9) ∧ ((zr (M.1 27 0 x1.toNat)) ∧ (((M.1 27 0 x1.toNat) ≤ 0 → Q (.inl (some (zI x2))) M cl 0) ∧ (¬ ((M.1 27 0 x1.toNat) ≤ 0) → (z_wi ((3 * x1) + 2) 27) ∧ (zF 59 [zI (M.1 26 0 (((3 * x1) + 2).toNat))] M (fun v M5 => ∃ r5 : Int, v = some (zI r5) ∧ ∀ cl5 : Bool, (zr r5 ∧ zr x2) ∧ ((r5 ≤ x2 → zT 89 (4, [some (zR 18 0), some (zI x1), some (zI x2), some (zI 3)], [], M5, cl5) Q) ∧ (¬ (r5 ≤ x2) → (z_wi ((3 * x1) + 2) 27) ∧ (zF 59 [zI (M5.1 26 0 (((3 * x1) + 2).toNat))] M5 (fun v M6 => ∃ r6 : Int, v = some (zI r6) ∧ ∀ cl6 : Bool, zT 89 (4, [some (zR 18 0), some (zI x1), some (zI r6), some (zI 3)], [], M6, cl6) Q)))))))))) : zT 89 (4, [some (zR 18 0), some (zI x1), some (zI x2), some (zI 2)], [], M, cl) Q := by
  refine zT.it 2 (t := (6, [some (zR 18 0), some (zI x1), some (zI x2), some (zI 2)], [zI 3, zI 2], M, cl)) rfl ?_
  refine zT.br (g := zr 2 ∧ zr 3) (p := 3 ≤ 2) (t := (59, [some (zR 18 0), some (zI x1), some (zI x2), some (zI 2)], [], M, cl)) (u := (9, [some (zR 18 0), some (zI x1), some (zI x2), some (zI 2)], [], M, cl)) rfl (by decide) (fun c => absurd c (by decide)) (fun c => ?_)
  refine zT.it 3 (t := (14, [some (zR 18 0), some (zI x1), some (zI x2), some (zI 2)], [zI x1, zR 27 0], M, cl)) rfl ?_
  refine zT.chk (p := z_wi x1 9) (t := (15, [some (zR 18 0), some (zI x1), some (zI x2), some (zI 2)], [zI (M.1 27 0 x1.toNat)], M, cl)) rfl h.1 ?_
  replace h := h.2
  refine zT.br (g := zr (M.1 27 0 x1.toNat)) (p := (M.1 27 0 x1.toNat) ≤ 0) (t := (59, [some (zR 18 0), some (zI x1), some (zI x2), some (zI 2)], [], M, cl)) (u := (18, [some (zR 18 0), some (zI x1), some (zI x2), some (zI 2)], [], M, cl)) rfl h.1 (fun c => ?_) (fun c => ?_)
  · replace h := h.2.1 c
    refine zT.it 1 (t := (60, [some (zR 18 0), some (zI x1), some (zI x2), some (zI 2)], [zI x2], M, cl)) rfl ?_
    exact zT.ret (v := some (zI x2)) rfl (by first | exact trivial | decide) h
  · replace h := h.2.2 c
    refine zT.it 7 (t := (27, [some (zR 18 0), some (zI x1), some (zI x2), some (zI 2)], [zI ((3 * x1) + 2), zR 26 0], M, cl)) rfl ?_
    refine zT.chk (p := z_wi ((3 * x1) + 2) 27) (t := (28, [some (zR 18 0), some (zI x1), some (zI x2), some (zI 2)], [zI (M.1 26 0 (((3 * x1) + 2).toNat))], M, cl)) rfl h.1 ?_
    replace h := h.2
    refine zT.call (m := 59) (as := [zI (M.1 26 0 (((3 * x1) + 2).toNat))]) (M := M) (L := [some (zR 18 0), some (zI x1), some (zI x2), some (zI 2)]) (st := []) (pn := 31) (cl := cl) rfl ?_
    refine zF.mono h (fun v M5 h cl5 => ?_)
    obtain ⟨r5, e5, h⟩ := h; subst e5; replace h := h cl5
    show zT 89 (31, [some (zR 18 0), some (zI x1), some (zI x2), some (zI 2)], [zI r5], M5, cl5) _
    refine zT.it 1 (t := (32, [some (zR 18 0), some (zI x1), some (zI x2), some (zI 2)], [zI x2, zI r5], M5, cl5)) rfl ?_
    refine zT.br (g := zr r5 ∧ zr x2) (p := r5 ≤ x2) (t := (51, [some (zR 18 0), some (zI x1), some (zI x2), some (zI 2)], [], M5, cl5)) (u := (35, [some (zR 18 0), some (zI x1), some (zI x2), some (zI 2)], [], M5, cl5)) rfl h.1 (fun c => ?_) (fun c => ?_)
    · replace h := h.2.1 c
      refine zT.it 4 (t := (4, [some (zR 18 0), some (zI x1), some (zI x2), some (zI 3)], [], M5, cl5)) rfl ?_
      exact h
    · replace h := h.2.2 c
      refine zT.it 7 (t := (44, [some (zR 18 0), some (zI x1), some (zI x2), some (zI 2)], [zI ((3 * x1) + 2), zR 26 0], M5, cl5)) rfl ?_
      refine zT.chk (p := z_wi ((3 * x1) + 2) 27) (t := (45, [some (zR 18 0), some (zI x1), some (zI x2), some (zI 2)], [zI (M5.1 26 0 (((3 * x1) + 2).toNat))], M5, cl5)) rfl h.1 ?_
      replace h := h.2
      refine zT.call (m := 59) (as := [zI (M5.1 26 0 (((3 * x1) + 2).toNat))]) (M := M5) (L := [some (zR 18 0), some (zI x1), some (zI x2), some (zI 2)]) (st := []) (pn := 48) (cl := cl5) rfl ?_
      refine zF.mono h (fun v M6 h cl6 => ?_)
      obtain ⟨r6, e6, h⟩ := h; subst e6; replace h := h cl6
      show zT 89 (48, [some (zR 18 0), some (zI x1), some (zI x2), some (zI 2)], [zI r6], M6, cl6) _
      refine zT.it 4 (t := (4, [some (zR 18 0), some (zI x1), some (zI r6), some (zI 3)], [], M6, cl6)) rfl ?_
      exact h
theorem g89_4a3 {x1 : Int} {x2 : Int} {M : zM} {cl : Bool} {Q : zQ} (h : Q (.inl (some (zI x2))) M cl 0) : zT 89 (4, [some (zR 18 0), some (zI x1), some (zI x2), some (zI 3)], [], M, cl) Q := by
  refine zT.it 2 (t := (6, [some (zR 18 0), some (zI x1), some (zI x2), some (zI 3)], [zI 3, zI 3], M, cl)) rfl ?_
  refine zT.br (g := zr 3 ∧ zr 3) (p := 3 ≤ 3) (t := (59, [some (zR 18 0), some (zI x1), some (zI x2), some (zI 3)], [], M, cl)) (u := (9, [some (zR 18 0), some (zI x1), some (zI x2), some (zI 3)], [], M, cl)) rfl (by decide) (fun c => ?_) (fun c => absurd (by decide) c)
  refine zT.it 1 (t := (60, [some (zR 18 0), some (zI x1), some (zI x2), some (zI 3)], [zI x2], M, cl)) rfl ?_
  exact zT.ret (v := some (zI x2)) rfl (by first | exact trivial | decide) h
