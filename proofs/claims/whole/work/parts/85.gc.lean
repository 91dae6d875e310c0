-- what each piece of the program asks (written by gen/g.py out of the program itself)
theorem g38_53 {x1 : Int} {x2 : Int} {u3 : Option zV} {u4 : Option zV} {u5 : Option zV} {M : zM} {cl : Bool} {Q : zQ} (h : (zr x2 ∧ zr (M.1 8 0 3)) ∧ (((M.1 8 0 3) ≤ x2 → zT 38 (127, [some (zR 8 0), some (zI x1), some (zI 0), some (zI ((M.1 8 0 3) - 1)), u4, u5], [], M, cl) Q) ∧ (¬ ((M.1 8 0 3) ≤ x2) → zF 31 [zR 8 0, zI (x2 - 1)] M (fun v M5 => ∃ r5 : Nat, v = some (zR 10 r5) ∧ ∀ cl5 : Bool, zF 31 [zR 8 0, zI x2] M5 (fun v M6 => ∃ r6 : Nat, v = some (zR 10 r6) ∧ ∀ cl6 : Bool, zF 36 [zR 10 r5, zR 10 r6] M6 (fun v M7 => ∃ r7 : Int, v = some (zI r7) ∧ ∀ cl7 : Bool, zF 35 [zI (M6.1 10 r6 2), zI r7] M7 (fun v M8 => ∃ r8 : Int, v = some (zI r8) ∧ ∀ cl8 : Bool, zF 37 [zR 8 0, zR 10 r5] M8 (fun v M9 => ∃ r9 : Int, v = some (zI r9) ∧ ∀ cl9 : Bool, zF 35 [zI r8, zI ((M8.1 10 r5 3) + r9)] M9 (fun v M10 => ∃ r10 : Int, v = some (zI r10) ∧ ∀ cl10 : Bool, zT 38 (53, [some (zR 8 0), some (zI x1), some (zI (x2 + 1)), some (zR 10 r5), some (zR 10 r6), some (zI r8)], [], (z_w M10 10 r6 3 r10), false) Q))))))))) : zT 38 (53, [some (zR 8 0), some (zI x1), some (zI x2), u3, u4, u5], [], M, cl) Q := by
  refine zT.it 3 (t := (58, [some (zR 8 0), some (zI x1), some (zI x2), u3, u4, u5], [zI (M.1 8 0 3), zI x2], M, cl)) rfl ?_
  refine zT.br (g := zr x2 ∧ zr (M.1 8 0 3)) (p := (M.1 8 0 3) ≤ x2) (t := (118, [some (zR 8 0), some (zI x1), some (zI x2), u3, u4, u5], [], M, cl)) (u := (61, [some (zR 8 0), some (zI x1), some (zI x2), u3, u4, u5], [], M, cl)) rfl h.1 (fun c => ?_) (fun c => ?_)
  · replace h := h.2.1 c
    refine zT.it 7 (t := (127, [some (zR 8 0), some (zI x1), some (zI 0), some (zI ((M.1 8 0 3) - 1)), u4, u5], [], M, cl)) rfl ?_
    exact h
  · replace h := h.2.2 c
    refine zT.it 4 (t := (65, [some (zR 8 0), some (zI x1), some (zI x2), u3, u4, u5], [zI (x2 - 1), zR 8 0], M, cl)) rfl ?_
    refine zT.call (m := 31) (as := [zR 8 0, zI (x2 - 1)]) (M := M) (L := [some (zR 8 0), some (zI x1), some (zI x2), u3, u4, u5]) (st := []) (pn := 68) (cl := cl) rfl ?_
    refine zF.mono h (fun v M5 h cl5 => ?_)
    obtain ⟨r5, e5, h⟩ := h; subst e5; replace h := h cl5
    show zT 38 (68, [some (zR 8 0), some (zI x1), some (zI x2), u3, u4, u5], [zR 10 r5], M5, cl5) _
    refine zT.it 3 (t := (71, [some (zR 8 0), some (zI x1), some (zI x2), some (zR 10 r5), u4, u5], [zI x2, zR 8 0], M5, cl5)) rfl ?_
    refine zT.call (m := 31) (as := [zR 8 0, zI x2]) (M := M5) (L := [some (zR 8 0), some (zI x1), some (zI x2), some (zR 10 r5), u4, u5]) (st := []) (pn := 74) (cl := cl5) rfl ?_
    refine zF.mono h (fun v M6 h cl6 => ?_)
    obtain ⟨r6, e6, h⟩ := h; subst e6; replace h := h cl6
    show zT 38 (74, [some (zR 8 0), some (zI x1), some (zI x2), some (zR 10 r5), u4, u5], [zR 10 r6], M6, cl6) _
    refine zT.it 5 (t := (84, [some (zR 8 0), some (zI x1), some (zI x2), some (zR 10 r5), some (zR 10 r6), u5], [zR 10 r6, zR 10 r5, zI (M6.1 10 r6 2)], M6, cl6)) rfl ?_
    refine zT.call (m := 36) (as := [zR 10 r5, zR 10 r6]) (M := M6) (L := [some (zR 8 0), some (zI x1), some (zI x2), some (zR 10 r5), some (zR 10 r6), u5]) (st := [zI (M6.1 10 r6 2)]) (pn := 87) (cl := cl6) rfl ?_
    refine zF.mono h (fun v M7 h cl7 => ?_)
    obtain ⟨r7, e7, h⟩ := h; subst e7; replace h := h cl7
    show zT 38 (87, [some (zR 8 0), some (zI x1), some (zI x2), some (zR 10 r5), some (zR 10 r6), u5], [zI r7, zI (M6.1 10 r6 2)], M7, cl7) _
    refine zT.call (m := 35) (as := [zI (M6.1 10 r6 2), zI r7]) (M := M7) (L := [some (zR 8 0), some (zI x1), some (zI x2), some (zR 10 r5), some (zR 10 r6), u5]) (st := []) (pn := 90) (cl := cl7) rfl ?_
    refine zF.mono h (fun v M8 h cl8 => ?_)
    obtain ⟨r8, e8, h⟩ := h; subst e8; replace h := h cl8
    show zT 38 (90, [some (zR 8 0), some (zI x1), some (zI x2), some (zR 10 r5), some (zR 10 r6), u5], [zI r8], M8, cl8) _
    refine zT.it 7 (t := (102, [some (zR 8 0), some (zI x1), some (zI x2), some (zR 10 r5), some (zR 10 r6), some (zI r8)], [zR 10 r5, zR 8 0, zI (M8.1 10 r5 3), zI r8, zR 10 r6], M8, cl8)) rfl ?_
    refine zT.call (m := 37) (as := [zR 8 0, zR 10 r5]) (M := M8) (L := [some (zR 8 0), some (zI x1), some (zI x2), some (zR 10 r5), some (zR 10 r6), some (zI r8)]) (st := [zI (M8.1 10 r5 3), zI r8, zR 10 r6]) (pn := 105) (cl := cl8) rfl ?_
    refine zF.mono h (fun v M9 h cl9 => ?_)
    obtain ⟨r9, e9, h⟩ := h; subst e9; replace h := h cl9
    show zT 38 (105, [some (zR 8 0), some (zI x1), some (zI x2), some (zR 10 r5), some (zR 10 r6), some (zI r8)], [zI r9, zI (M8.1 10 r5 3), zI r8, zR 10 r6], M9, cl9) _
    refine zT.it 1 (t := (106, [some (zR 8 0), some (zI x1), some (zI x2), some (zR 10 r5), some (zR 10 r6), some (zI r8)], [zI ((M8.1 10 r5 3) + r9), zI r8, zR 10 r6], M9, cl9)) rfl ?_
    refine zT.call (m := 35) (as := [zI r8, zI ((M8.1 10 r5 3) + r9)]) (M := M9) (L := [some (zR 8 0), some (zI x1), some (zI x2), some (zR 10 r5), some (zR 10 r6), some (zI r8)]) (st := [zR 10 r6]) (pn := 109) (cl := cl9) rfl ?_
    refine zF.mono h (fun v M10 h cl10 => ?_)
    obtain ⟨r10, e10, h⟩ := h; subst e10; replace h := h cl10
    show zT 38 (109, [some (zR 8 0), some (zI x1), some (zI x2), some (zR 10 r5), some (zR 10 r6), some (zI r8)], [zI r10, zR 10 r6], M10, cl10) _
    refine zT.it 3 (t := (53, [some (zR 8 0), some (zI x1), some (zI (x2 + 1)), some (zR 10 r5), some (zR 10 r6), some (zI r8)], [], (z_w M10 10 r6 3 r10), false)) rfl ?_
    exact h
theorem g38_127 {x1 : Int} {x2 : Int} {x3 : Int} {u4 : Option zV} {u5 : Option zV} {M : zM} {cl : Bool} {Q : zQ} (h : (zr x3 ∧ zr x1) ∧ ((x3 ≤ x1 → Q (.inl none) M cl 0) ∧ (¬ (x3 ≤ x1) → zF 31 [zR 8 0, zI x3] M (fun v M11 => ∃ r11 : Nat, v = some (zR 10 r11) ∧ ∀ cl11 : Bool, zF 37 [zR 8 0, zR 10 r11] M11 (fun v M12 => ∃ r12 : Int, v = some (zI r12) ∧ ∀ cl12 : Bool, zF 35 [zI (M11.1 10 r11 3), zI (x2 + r12)] M12 (fun v M13 => ∃ r13 : Int, v = some (zI r13) ∧ ∀ cl13 : Bool, zT 38 (127, [some (zR 8 0), some (zI x1), some (zI ((z_w M13 10 r11 3 r13).1 10 r11 3)), some (zI (x3 + (-1))), some (zR 10 r11), u5], [], (z_w M13 10 r11 3 r13), false) Q)))))) : zT 38 (127, [some (zR 8 0), some (zI x1), some (zI x2), some (zI x3), u4, u5], [], M, cl) Q := by
  refine zT.it 2 (t := (129, [some (zR 8 0), some (zI x1), some (zI x2), some (zI x3), u4, u5], [zI x1, zI x3], M, cl)) rfl ?_
  refine zT.br (g := zr x3 ∧ zr x1) (p := x3 ≤ x1) (t := (172, [some (zR 8 0), some (zI x1), some (zI x2), some (zI x3), u4, u5], [], M, cl)) (u := (132, [some (zR 8 0), some (zI x1), some (zI x2), some (zI x3), u4, u5], [], M, cl)) rfl h.1 (fun c => ?_) (fun c => ?_)
  · replace h := h.2.1 c
    exact zT.ret (v := none) rfl trivial h
  · replace h := h.2.2 c
    refine zT.it 2 (t := (134, [some (zR 8 0), some (zI x1), some (zI x2), some (zI x3), u4, u5], [zI x3, zR 8 0], M, cl)) rfl ?_
    refine zT.call (m := 31) (as := [zR 8 0, zI x3]) (M := M) (L := [some (zR 8 0), some (zI x1), some (zI x2), some (zI x3), u4, u5]) (st := []) (pn := 137) (cl := cl) rfl ?_
    refine zF.mono h (fun v M11 h cl11 => ?_)
    obtain ⟨r11, e11, h⟩ := h; subst e11; replace h := h cl11
    show zT 38 (137, [some (zR 8 0), some (zI x1), some (zI x2), some (zI x3), u4, u5], [zR 10 r11], M11, cl11) _
    refine zT.it 7 (t := (150, [some (zR 8 0), some (zI x1), some (zI x2), some (zI x3), some (zR 10 r11), u5], [zR 10 r11, zR 8 0, zI x2, zI (M11.1 10 r11 3), zR 10 r11], M11, cl11)) rfl ?_
    refine zT.call (m := 37) (as := [zR 8 0, zR 10 r11]) (M := M11) (L := [some (zR 8 0), some (zI x1), some (zI x2), some (zI x3), some (zR 10 r11), u5]) (st := [zI x2, zI (M11.1 10 r11 3), zR 10 r11]) (pn := 153) (cl := cl11) rfl ?_
    refine zF.mono h (fun v M12 h cl12 => ?_)
    obtain ⟨r12, e12, h⟩ := h; subst e12; replace h := h cl12
    show zT 38 (153, [some (zR 8 0), some (zI x1), some (zI x2), some (zI x3), some (zR 10 r11), u5], [zI r12, zI x2, zI (M11.1 10 r11 3), zR 10 r11], M12, cl12) _
    refine zT.it 1 (t := (154, [some (zR 8 0), some (zI x1), some (zI x2), some (zI x3), some (zR 10 r11), u5], [zI (x2 + r12), zI (M11.1 10 r11 3), zR 10 r11], M12, cl12)) rfl ?_
    refine zT.call (m := 35) (as := [zI (M11.1 10 r11 3), zI (x2 + r12)]) (M := M12) (L := [some (zR 8 0), some (zI x1), some (zI x2), some (zI x3), some (zR 10 r11), u5]) (st := [zR 10 r11]) (pn := 157) (cl := cl12) rfl ?_
    refine zF.mono h (fun v M13 h cl13 => ?_)
    obtain ⟨r13, e13, h⟩ := h; subst e13; replace h := h cl13
    show zT 38 (157, [some (zR 8 0), some (zI x1), some (zI x2), some (zI x3), some (zR 10 r11), u5], [zI r13, zR 10 r11], M13, cl13) _
    refine zT.it 6 (t := (127, [some (zR 8 0), some (zI x1), some (zI ((z_w M13 10 r11 3 r13).1 10 r11 3)), some (zI (x3 + (-1))), some (zR 10 r11), u5], [], (z_w M13 10 r11 3 r13), false)) rfl ?_
    exact h
theorem g39_0_15_17 {a3 : Int} {M : zM} {Q : zQ} (h : zF 31 [zR 8 0, zI (M.1 8 0 3)] M (fun v M1 => ∃ r1 : Nat, v = some (zR 10 r1) ∧ ∀ cl1 : Bool, zF 33 [zR 10 r1, zR 15 0, zR 17 0, zI a3] M1 (fun v M2 => v = none ∧ ∀ cl2 : Bool, zF 38 [zR 8 0] (z_w M2 8 0 3 ((M2.1 8 0 3) + 1)) (fun v M3 => v = none ∧ ∀ cl3 : Bool, Q (.inl none) M3 cl3 0)))) : zT 39 (0, [some (zR 8 0), some (zR 15 0), some (zR 17 0), some (zI a3)], [], M, true) Q := by
  refine zT.it 3 (t := (5, [some (zR 8 0), some (zR 15 0), some (zR 17 0), some (zI a3)], [zI (M.1 8 0 3), zR 8 0], M, true)) rfl ?_
  refine zT.call (m := 31) (as := [zR 8 0, zI (M.1 8 0 3)]) (M := M) (L := [some (zR 8 0), some (zR 15 0), some (zR 17 0), some (zI a3)]) (st := []) (pn := 8) (cl := true) rfl ?_
  refine zF.mono h (fun v M1 h cl1 => ?_)
  obtain ⟨r1, e1, h⟩ := h; subst e1; replace h := h cl1
  show zT 39 (8, [some (zR 8 0), some (zR 15 0), some (zR 17 0), some (zI a3)], [zR 10 r1], M1, cl1) _
  refine zT.it 3 (t := (11, [some (zR 8 0), some (zR 15 0), some (zR 17 0), some (zI a3)], [zI a3, zR 17 0, zR 15 0, zR 10 r1], M1, cl1)) rfl ?_
  refine zT.call (m := 33) (as := [zR 10 r1, zR 15 0, zR 17 0, zI a3]) (M := M1) (L := [some (zR 8 0), some (zR 15 0), some (zR 17 0), some (zI a3)]) (st := []) (pn := 14) (cl := cl1) rfl ?_
  refine zF.mono h (fun v M2 h cl2 => ?_)
  obtain ⟨e2, h⟩ := h; subst e2; replace h := h cl2
  show zT 39 (14, [some (zR 8 0), some (zR 15 0), some (zR 17 0), some (zI a3)], [], M2, cl2) _
  refine zT.it 7 (t := (25, [some (zR 8 0), some (zR 15 0), some (zR 17 0), some (zI a3)], [zR 8 0], (z_w M2 8 0 3 ((M2.1 8 0 3) + 1)), false)) rfl ?_
  refine zT.call (m := 38) (as := [zR 8 0]) (M := (z_w M2 8 0 3 ((M2.1 8 0 3) + 1))) (L := [some (zR 8 0), some (zR 15 0), some (zR 17 0), some (zI a3)]) (st := []) (pn := 28) (cl := false) rfl ?_
  refine zF.mono h (fun v M3 h cl3 => ?_)
  obtain ⟨e3, h⟩ := h; subst e3; replace h := h cl3
  show zT 39 (28, [some (zR 8 0), some (zR 15 0), some (zR 17 0), some (zI a3)], [], M3, cl3) _
  exact zT.ret (v := none) rfl trivial h
theorem g40_0_14_15 {M : zM} {Q : zQ} (h : Q (.inl none) (z_cp M 14 0 15 0) false 0) : zT 40 (0, [some (zR 14 0), some (zR 15 0)], [], M, true) Q := by
  refine zT.it 5 (t := (5, [some (zR 14 0), some (zR 15 0)], [zI 3, zI 0, zR 15 0, zI 0, zR 14 0], M, true)) rfl ?_
  refine zT.chk (t := (8, [some (zR 14 0), some (zR 15 0)], [], (z_cp M 14 0 15 0), false)) rfl (by first | decide | (dsimp only; decide)) ?_
  exact zT.ret (v := none) rfl trivial h
theorem g40_0_17_15 {M : zM} {Q : zQ} (h : Q (.inl none) (z_cp M 17 0 15 0) false 0) : zT 40 (0, [some (zR 17 0), some (zR 15 0)], [], M, true) Q := by
  refine zT.it 5 (t := (5, [some (zR 17 0), some (zR 15 0)], [zI 3, zI 0, zR 15 0, zI 0, zR 17 0], M, true)) rfl ?_
  refine zT.chk (t := (8, [some (zR 17 0), some (zR 15 0)], [], (z_cp M 17 0 15 0), false)) rfl (by first | decide | (dsimp only; decide)) ?_
  exact zT.ret (v := none) rfl trivial h
theorem g41_0 {M : zM} {Q : zQ} (h : zF 26 [zR 0 0] M (fun v M1 => ∃ r1 : Int, v = some (zI r1) ∧ ∀ cl1 : Bool, zF 28 [zR 0 0] M1 (fun v M2 => ∃ r2 : Int, v = some (zI r2) ∧ ∀ cl2 : Bool, (zr r2) ∧ ((¬ r2 = 0 → (zr r1) ∧ ((r1 = 0 → zF 20 [zR 6 0, zI 70] M2 (fun v M3 => ∃ r3 : Int, v = some (zI r3) ∧ ∀ cl3 : Bool, (zr r3) ∧ ((r3 = 0 → (zr r1) ∧ ((r1 = 0 → Q (.inl (some (zI 0))) M3 cl3 0) ∧ (¬ (r1 = 0) → zF 39 [zR 8 0, zR 15 0, zR 17 0, zI (M3.1 0 0 13)] M3 (fun v M4 => v = none ∧ ∀ cl4 : Bool, zF 40 [zR 17 0, zR 15 0] M4 (fun v M5 => v = none ∧ ∀ cl5 : Bool, Q (.inl (some (zI 0))) M5 cl5 0))))) ∧ (¬ (r3 = 0) → zF 22 [zR 6 0, zI 70] M3 (fun v M6 => ∃ r6 : Int, v = some (zI r6) ∧ ∀ cl6 : Bool, (zr r1) ∧ ((r1 = 0 → Q (.inl (some (zI 0))) (z_w M6 0 0 13 r6) false 0) ∧ (¬ (r1 = 0) → zF 39 [zR 8 0, zR 15 0, zR 17 0, zI r6] (z_w M6 0 0 13 r6) (fun v M7 => v = none ∧ ∀ cl7 : Bool, zF 40 [zR 17 0, zR 15 0] M7 (fun v M8 => v = none ∧ ∀ cl8 : Bool, Q (.inl (some (zI 0))) M8 cl8 0))))))))) ∧ (¬ (r1 = 0) → zF 29 [zR 8 0] M2 (fun v M9 => ∃ r9 : Int, v = some (zI r9) ∧ ∀ cl9 : Bool, (zr r9) ∧ ((r9 = 0 → zF 20 [zR 6 0, zI 70] M9 (fun v M10 => ∃ r10 : Int, v = some (zI r10) ∧ ∀ cl10 : Bool, (zr r10) ∧ ((r10 = 0 → (zr r1) ∧ ((r1 = 0 → Q (.inl (some (zI 0))) M10 cl10 0) ∧ (¬ (r1 = 0) → zF 39 [zR 8 0, zR 15 0, zR 17 0, zI (M10.1 0 0 13)] M10 (fun v M11 => v = none ∧ ∀ cl11 : Bool, zF 40 [zR 17 0, zR 15 0] M11 (fun v M12 => v = none ∧ ∀ cl12 : Bool, Q (.inl (some (zI 0))) M12 cl12 0))))) ∧ (¬ (r10 = 0) → zF 22 [zR 6 0, zI 70] M10 (fun v M13 => ∃ r13 : Int, v = some (zI r13) ∧ ∀ cl13 : Bool, (zr r1) ∧ ((r1 = 0 → Q (.inl (some (zI 0))) (z_w M13 0 0 13 r13) false 0) ∧ (¬ (r1 = 0) → zF 39 [zR 8 0, zR 15 0, zR 17 0, zI r13] (z_w M13 0 0 13 r13) (fun v M14 => v = none ∧ ∀ cl14 : Bool, zF 40 [zR 17 0, zR 15 0] M14 (fun v M15 => v = none ∧ ∀ cl15 : Bool, Q (.inl (some (zI 0))) M15 cl15 0))))))))) ∧ (¬ (r9 = 0) → Q (.inl (some (zI (-2)))) M9 cl9 0)))))) ∧ (r2 = 0 → Q (.inl (some (zI (-3)))) M2 cl2 0))))) : zT 41 (0, [some (zR 0 0), none], [], M, true) Q := by
  refine zT.it 1 (t := (1, [some (zR 0 0), none], [zR 0 0], M, true)) rfl ?_
  refine zT.call (m := 26) (as := [zR 0 0]) (M := M) (L := [some (zR 0 0), none]) (st := []) (pn := 4) (cl := true) rfl ?_
  refine zF.mono h (fun v M1 h cl1 => ?_)
  obtain ⟨r1, e1, h⟩ := h; subst e1; replace h := h cl1
  show zT 41 (4, [some (zR 0 0), none], [zI r1], M1, cl1) _
  refine zT.it 2 (t := (6, [some (zR 0 0), some (zI r1)], [zR 0 0], M1, cl1)) rfl ?_
  refine zT.call (m := 28) (as := [zR 0 0]) (M := M1) (L := [some (zR 0 0), some (zI r1)]) (st := []) (pn := 9) (cl := cl1) rfl ?_
  refine zF.mono h (fun v M2 h cl2 => ?_)
  obtain ⟨r2, e2, h⟩ := h; subst e2; replace h := h cl2
  show zT 41 (9, [some (zR 0 0), some (zI r1)], [zI r2], M2, cl2) _
  refine zT.br (g := zr r2) (p := ¬ r2 = 0) (t := (15, [some (zR 0 0), some (zI r1)], [], M2, cl2)) (u := (12, [some (zR 0 0), some (zI r1)], [], M2, cl2)) rfl h.1 (fun c => ?_) (fun c => ?_)
  · replace h := h.2.1 c
    refine zT.it 1 (t := (16, [some (zR 0 0), some (zI r1)], [zI r1], M2, cl2)) rfl ?_
    refine zT.br (g := zr r1) (p := r1 = 0) (t := (32, [some (zR 0 0), some (zI r1)], [], M2, cl2)) (u := (19, [some (zR 0 0), some (zI r1)], [], M2, cl2)) rfl h.1 (fun c => ?_) (fun c => ?_)
    · replace h := h.2.1 c
      refine zT.it 3 (t := (38, [some (zR 0 0), some (zI r1)], [zI 70, zR 6 0], M2, cl2)) rfl ?_
      refine zT.call (m := 20) (as := [zR 6 0, zI 70]) (M := M2) (L := [some (zR 0 0), some (zI r1)]) (st := []) (pn := 41) (cl := cl2) rfl ?_
      refine zF.mono h (fun v M3 h cl3 => ?_)
      obtain ⟨r3, e3, h⟩ := h; subst e3; replace h := h cl3
      show zT 41 (41, [some (zR 0 0), some (zI r1)], [zI r3], M3, cl3) _
      refine zT.br (g := zr r3) (p := r3 = 0) (t := (57, [some (zR 0 0), some (zI r1)], [], M3, cl3)) (u := (44, [some (zR 0 0), some (zI r1)], [], M3, cl3)) rfl h.1 (fun c => ?_) (fun c => ?_)
      · replace h := h.2.1 c
        refine zT.it 1 (t := (58, [some (zR 0 0), some (zI r1)], [zI r1], M3, cl3)) rfl ?_
        refine zT.br (g := zr r1) (p := r1 = 0) (t := (91, [some (zR 0 0), some (zI r1)], [], M3, cl3)) (u := (61, [some (zR 0 0), some (zI r1)], [], M3, cl3)) rfl h.1 (fun c => ?_) (fun c => ?_)
        · replace h := h.2.1 c
          refine zT.it 1 (t := (92, [some (zR 0 0), some (zI r1)], [zI 0], M3, cl3)) rfl ?_
          exact zT.ret (v := some (zI 0)) rfl (by first | exact trivial | decide) h
        · replace h := h.2.2 c
          refine zT.it 8 (t := (77, [some (zR 0 0), some (zI r1)], [zI (M3.1 0 0 13), zR 17 0, zR 15 0, zR 8 0], M3, cl3)) rfl ?_
          refine zT.call (m := 39) (as := [zR 8 0, zR 15 0, zR 17 0, zI (M3.1 0 0 13)]) (M := M3) (L := [some (zR 0 0), some (zI r1)]) (st := []) (pn := 80) (cl := cl3) rfl ?_
          refine zF.mono h (fun v M4 h cl4 => ?_)
          obtain ⟨e4, h⟩ := h; subst e4; replace h := h cl4
          show zT 41 (80, [some (zR 0 0), some (zI r1)], [], M4, cl4) _
          refine zT.it 4 (t := (88, [some (zR 0 0), some (zI r1)], [zR 15 0, zR 17 0], M4, cl4)) rfl ?_
          refine zT.call (m := 40) (as := [zR 17 0, zR 15 0]) (M := M4) (L := [some (zR 0 0), some (zI r1)]) (st := []) (pn := 91) (cl := cl4) rfl ?_
          refine zF.mono h (fun v M5 h cl5 => ?_)
          obtain ⟨e5, h⟩ := h; subst e5; replace h := h cl5
          show zT 41 (91, [some (zR 0 0), some (zI r1)], [], M5, cl5) _
          refine zT.it 1 (t := (92, [some (zR 0 0), some (zI r1)], [zI 0], M5, cl5)) rfl ?_
          exact zT.ret (v := some (zI 0)) rfl (by first | exact trivial | decide) h
      · replace h := h.2.2 c
        refine zT.it 4 (t := (51, [some (zR 0 0), some (zI r1)], [zI 70, zR 6 0, zR 0 0], M3, cl3)) rfl ?_
        refine zT.call (m := 22) (as := [zR 6 0, zI 70]) (M := M3) (L := [some (zR 0 0), some (zI r1)]) (st := [zR 0 0]) (pn := 54) (cl := cl3) rfl ?_
        refine zF.mono h (fun v M6 h cl6 => ?_)
        obtain ⟨r6, e6, h⟩ := h; subst e6; replace h := h cl6
        show zT 41 (54, [some (zR 0 0), some (zI r1)], [zI r6, zR 0 0], M6, cl6) _
        refine zT.it 2 (t := (58, [some (zR 0 0), some (zI r1)], [zI r1], (z_w M6 0 0 13 r6), false)) rfl ?_
        refine zT.br (g := zr r1) (p := r1 = 0) (t := (91, [some (zR 0 0), some (zI r1)], [], (z_w M6 0 0 13 r6), false)) (u := (61, [some (zR 0 0), some (zI r1)], [], (z_w M6 0 0 13 r6), false)) rfl h.1 (fun c => ?_) (fun c => ?_)
        · replace h := h.2.1 c
          refine zT.it 1 (t := (92, [some (zR 0 0), some (zI r1)], [zI 0], (z_w M6 0 0 13 r6), false)) rfl ?_
          exact zT.ret (v := some (zI 0)) rfl (by first | exact trivial | decide) h
        · replace h := h.2.2 c
          refine zT.it 8 (t := (77, [some (zR 0 0), some (zI r1)], [zI r6, zR 17 0, zR 15 0, zR 8 0], (z_w M6 0 0 13 r6), false)) rfl ?_
          refine zT.call (m := 39) (as := [zR 8 0, zR 15 0, zR 17 0, zI r6]) (M := (z_w M6 0 0 13 r6)) (L := [some (zR 0 0), some (zI r1)]) (st := []) (pn := 80) (cl := false) rfl ?_
          refine zF.mono h (fun v M7 h cl7 => ?_)
          obtain ⟨e7, h⟩ := h; subst e7; replace h := h cl7
          show zT 41 (80, [some (zR 0 0), some (zI r1)], [], M7, cl7) _
          refine zT.it 4 (t := (88, [some (zR 0 0), some (zI r1)], [zR 15 0, zR 17 0], M7, cl7)) rfl ?_
          refine zT.call (m := 40) (as := [zR 17 0, zR 15 0]) (M := M7) (L := [some (zR 0 0), some (zI r1)]) (st := []) (pn := 91) (cl := cl7) rfl ?_
          refine zF.mono h (fun v M8 h cl8 => ?_)
          obtain ⟨e8, h⟩ := h; subst e8; replace h := h cl8
          show zT 41 (91, [some (zR 0 0), some (zI r1)], [], M8, cl8) _
          refine zT.it 1 (t := (92, [some (zR 0 0), some (zI r1)], [zI 0], M8, cl8)) rfl ?_
          exact zT.ret (v := some (zI 0)) rfl (by first | exact trivial | decide) h
    · replace h := h.2.2 c
      refine zT.it 2 (t := (23, [some (zR 0 0), some (zI r1)], [zR 8 0], M2, cl2)) rfl ?_
      refine zT.call (m := 29) (as := [zR 8 0]) (M := M2) (L := [some (zR 0 0), some (zI r1)]) (st := []) (pn := 26) (cl := cl2) rfl ?_
      refine zF.mono h (fun v M9 h cl9 => ?_)
      obtain ⟨r9, e9, h⟩ := h; subst e9; replace h := h cl9
      show zT 41 (26, [some (zR 0 0), some (zI r1)], [zI r9], M9, cl9) _
      refine zT.br (g := zr r9) (p := r9 = 0) (t := (32, [some (zR 0 0), some (zI r1)], [], M9, cl9)) (u := (29, [some (zR 0 0), some (zI r1)], [], M9, cl9)) rfl h.1 (fun c => ?_) (fun c => ?_)
      · replace h := h.2.1 c
        refine zT.it 3 (t := (38, [some (zR 0 0), some (zI r1)], [zI 70, zR 6 0], M9, cl9)) rfl ?_
        refine zT.call (m := 20) (as := [zR 6 0, zI 70]) (M := M9) (L := [some (zR 0 0), some (zI r1)]) (st := []) (pn := 41) (cl := cl9) rfl ?_
        refine zF.mono h (fun v M10 h cl10 => ?_)
        obtain ⟨r10, e10, h⟩ := h; subst e10; replace h := h cl10
        show zT 41 (41, [some (zR 0 0), some (zI r1)], [zI r10], M10, cl10) _
        refine zT.br (g := zr r10) (p := r10 = 0) (t := (57, [some (zR 0 0), some (zI r1)], [], M10, cl10)) (u := (44, [some (zR 0 0), some (zI r1)], [], M10, cl10)) rfl h.1 (fun c => ?_) (fun c => ?_)
        · replace h := h.2.1 c
          refine zT.it 1 (t := (58, [some (zR 0 0), some (zI r1)], [zI r1], M10, cl10)) rfl ?_
          refine zT.br (g := zr r1) (p := r1 = 0) (t := (91, [some (zR 0 0), some (zI r1)], [], M10, cl10)) (u := (61, [some (zR 0 0), some (zI r1)], [], M10, cl10)) rfl h.1 (fun c => ?_) (fun c => ?_)
          · replace h := h.2.1 c
            refine zT.it 1 (t := (92, [some (zR 0 0), some (zI r1)], [zI 0], M10, cl10)) rfl ?_
            exact zT.ret (v := some (zI 0)) rfl (by first | exact trivial | decide) h
          · replace h := h.2.2 c
            refine zT.it 8 (t := (77, [some (zR 0 0), some (zI r1)], [zI (M10.1 0 0 13), zR 17 0, zR 15 0, zR 8 0], M10, cl10)) rfl ?_
            refine zT.call (m := 39) (as := [zR 8 0, zR 15 0, zR 17 0, zI (M10.1 0 0 13)]) (M := M10) (L := [some (zR 0 0), some (zI r1)]) (st := []) (pn := 80) (cl := cl10) rfl ?_
            refine zF.mono h (fun v M11 h cl11 => ?_)
            obtain ⟨e11, h⟩ := h; subst e11; replace h := h cl11
            show zT 41 (80, [some (zR 0 0), some (zI r1)], [], M11, cl11) _
            refine zT.it 4 (t := (88, [some (zR 0 0), some (zI r1)], [zR 15 0, zR 17 0], M11, cl11)) rfl ?_
            refine zT.call (m := 40) (as := [zR 17 0, zR 15 0]) (M := M11) (L := [some (zR 0 0), some (zI r1)]) (st := []) (pn := 91) (cl := cl11) rfl ?_
            refine zF.mono h (fun v M12 h cl12 => ?_)
            obtain ⟨e12, h⟩ := h; subst e12; replace h := h cl12
            show zT 41 (91, [some (zR 0 0), some (zI r1)], [], M12, cl12) _
            refine zT.it 1 (t := (92, [some (zR 0 0), some (zI r1)], [zI 0], M12, cl12)) rfl ?_
            exact zT.ret (v := some (zI 0)) rfl (by first | exact trivial | decide) h
        · replace h := h.2.2 c
          refine zT.it 4 (t := (51, [some (zR 0 0), some (zI r1)], [zI 70, zR 6 0, zR 0 0], M10, cl10)) rfl ?_
          refine zT.call (m := 22) (as := [zR 6 0, zI 70]) (M := M10) (L := [some (zR 0 0), some (zI r1)]) (st := [zR 0 0]) (pn := 54) (cl := cl10) rfl ?_
          refine zF.mono h (fun v M13 h cl13 => ?_)
          obtain ⟨r13, e13, h⟩ := h; subst e13; replace h := h cl13
          show zT 41 (54, [some (zR 0 0), some (zI r1)], [zI r13, zR 0 0], M13, cl13) _
          refine zT.it 2 (t := (58, [some (zR 0 0), some (zI r1)], [zI r1], (z_w M13 0 0 13 r13), false)) rfl ?_
          refine zT.br (g := zr r1) (p := r1 = 0) (t := (91, [some (zR 0 0), some (zI r1)], [], (z_w M13 0 0 13 r13), false)) (u := (61, [some (zR 0 0), some (zI r1)], [], (z_w M13 0 0 13 r13), false)) rfl h.1 (fun c => ?_) (fun c => ?_)
          · replace h := h.2.1 c
            refine zT.it 1 (t := (92, [some (zR 0 0), some (zI r1)], [zI 0], (z_w M13 0 0 13 r13), false)) rfl ?_
            exact zT.ret (v := some (zI 0)) rfl (by first | exact trivial | decide) h
          · replace h := h.2.2 c
            refine zT.it 8 (t := (77, [some (zR 0 0), some (zI r1)], [zI r13, zR 17 0, zR 15 0, zR 8 0], (z_w M13 0 0 13 r13), false)) rfl ?_
            refine zT.call (m := 39) (as := [zR 8 0, zR 15 0, zR 17 0, zI r13]) (M := (z_w M13 0 0 13 r13)) (L := [some (zR 0 0), some (zI r1)]) (st := []) (pn := 80) (cl := false) rfl ?_
            refine zF.mono h (fun v M14 h cl14 => ?_)
            obtain ⟨e14, h⟩ := h; subst e14; replace h := h cl14
            show zT 41 (80, [some (zR 0 0), some (zI r1)], [], M14, cl14) _
            refine zT.it 4 (t := (88, [some (zR 0 0), some (zI r1)], [zR 15 0, zR 17 0], M14, cl14)) rfl ?_
            refine zT.call (m := 40) (as := [zR 17 0, zR 15 0]) (M := M14) (L := [some (zR 0 0), some (zI r1)]) (st := []) (pn := 91) (cl := cl14) rfl ?_
            refine zF.mono h (fun v M15 h cl15 => ?_)
            obtain ⟨e15, h⟩ := h; subst e15; replace h := h cl15
            show zT 41 (91, [some (zR 0 0), some (zI r1)], [], M15, cl15) _
            refine zT.it 1 (t := (92, [some (zR 0 0), some (zI r1)], [zI 0], M15, cl15)) rfl ?_
            exact zT.ret (v := some (zI 0)) rfl (by first | exact trivial | decide) h
      · replace h := h.2.2 c
        refine zT.it 1 (t := (31, [some (zR 0 0), some (zI r1)], [zI (-2)], M9, cl9)) rfl ?_
        exact zT.ret (v := some (zI (-2))) rfl (by first | exact trivial | decide) h
  · replace h := h.2.2 (Decidable.not_not.1 c)
    refine zT.it 1 (t := (14, [some (zR 0 0), some (zI r1)], [zI (-3)], M2, cl2)) rfl ?_
    exact zT.ret (v := some (zI (-3))) rfl (by first | exact trivial | decide) h
theorem g42_0 {j0 : Nat} {a1 : Int} {M : zM} {Q : zQ} (h : Q (.inl none) (z_w (z_w (z_w (z_w (z_w M 11 j0 0 0) 11 j0 1 0) 11 j0 2 0) 10 j0 1 a1) 10 j0 2 0) false 0) : zT 42 (0, [some (zR 10 j0), some (zI a1), none], [], M, true) Q := by
  refine zT.it 4 (t := (4, [some (zR 10 j0), some (zI a1), some (zI 0)], [zI 3, zI 0], M, true)) rfl ?_
  refine zT.br (g := zr 0 ∧ zr 3) (p := 3 ≤ 0) (t := (20, [some (zR 10 j0), some (zI a1), some (zI 0)], [], M, true)) (u := (7, [some (zR 10 j0), some (zI a1), some (zI 0)], [], M, true)) rfl (by decide) (fun c => absurd c (by decide)) (fun c => ?_)
  refine zT.it 4 (t := (13, [some (zR 10 j0), some (zI a1), some (zI 0)], [zI 0, zI 0, zR 11 j0], M, true)) rfl ?_
  refine zT.chk (t := (14, [some (zR 10 j0), some (zI a1), some (zI 0)], [], (z_w M 11 j0 0 0), false)) rfl (by first | decide | (dsimp only; decide)) ?_
  refine zT.it 4 (t := (4, [some (zR 10 j0), some (zI a1), some (zI 1)], [zI 3, zI 1], (z_w M 11 j0 0 0), false)) rfl ?_
  refine zT.br (g := zr 1 ∧ zr 3) (p := 3 ≤ 1) (t := (20, [some (zR 10 j0), some (zI a1), some (zI 1)], [], (z_w M 11 j0 0 0), false)) (u := (7, [some (zR 10 j0), some (zI a1), some (zI 1)], [], (z_w M 11 j0 0 0), false)) rfl (by decide) (fun c => absurd c (by decide)) (fun c => ?_)
  refine zT.it 4 (t := (13, [some (zR 10 j0), some (zI a1), some (zI 1)], [zI 0, zI 1, zR 11 j0], (z_w M 11 j0 0 0), false)) rfl ?_
  refine zT.chk (t := (14, [some (zR 10 j0), some (zI a1), some (zI 1)], [], (z_w (z_w M 11 j0 0 0) 11 j0 1 0), false)) rfl (by first | decide | (dsimp only; decide)) ?_
  refine zT.it 4 (t := (4, [some (zR 10 j0), some (zI a1), some (zI 2)], [zI 3, zI 2], (z_w (z_w M 11 j0 0 0) 11 j0 1 0), false)) rfl ?_
  refine zT.br (g := zr 2 ∧ zr 3) (p := 3 ≤ 2) (t := (20, [some (zR 10 j0), some (zI a1), some (zI 2)], [], (z_w (z_w M 11 j0 0 0) 11 j0 1 0), false)) (u := (7, [some (zR 10 j0), some (zI a1), some (zI 2)], [], (z_w (z_w M 11 j0 0 0) 11 j0 1 0), false)) rfl (by decide) (fun c => absurd c (by decide)) (fun c => ?_)
  refine zT.it 4 (t := (13, [some (zR 10 j0), some (zI a1), some (zI 2)], [zI 0, zI 2, zR 11 j0], (z_w (z_w M 11 j0 0 0) 11 j0 1 0), false)) rfl ?_
  refine zT.chk (t := (14, [some (zR 10 j0), some (zI a1), some (zI 2)], [], (z_w (z_w (z_w M 11 j0 0 0) 11 j0 1 0) 11 j0 2 0), false)) rfl (by first | decide | (dsimp only; decide)) ?_
  refine zT.it 4 (t := (4, [some (zR 10 j0), some (zI a1), some (zI 3)], [zI 3, zI 3], (z_w (z_w (z_w M 11 j0 0 0) 11 j0 1 0) 11 j0 2 0), false)) rfl ?_
  refine zT.br (g := zr 3 ∧ zr 3) (p := 3 ≤ 3) (t := (20, [some (zR 10 j0), some (zI a1), some (zI 3)], [], (z_w (z_w (z_w M 11 j0 0 0) 11 j0 1 0) 11 j0 2 0), false)) (u := (7, [some (zR 10 j0), some (zI a1), some (zI 3)], [], (z_w (z_w (z_w M 11 j0 0 0) 11 j0 1 0) 11 j0 2 0), false)) rfl (by decide) (fun c => ?_) (fun c => absurd (by decide) c)
  refine zT.it 6 (t := (30, [some (zR 10 j0), some (zI a1), some (zI 3)], [], (z_w (z_w (z_w (z_w (z_w M 11 j0 0 0) 11 j0 1 0) 11 j0 2 0) 10 j0 1 a1) 10 j0 2 0), false)) rfl ?_
  exact zT.ret (v := none) rfl trivial h
theorem g43_0 {a1 : Int} {M : zM} {Q : zQ} (h : zF 31 [zR 8 0, zI (M.1 8 0 3)] M (fun v M1 => ∃ r1 : Nat, v = some (zR 10 r1) ∧ ∀ cl1 : Bool, zF 42 [zR 10 r1, zI a1] M1 (fun v M2 => v = none ∧ ∀ cl2 : Bool, zF 38 [zR 8 0] (z_w M2 8 0 3 ((M2.1 8 0 3) + 1)) (fun v M3 => v = none ∧ ∀ cl3 : Bool, Q (.inl none) M3 cl3 0)))) : zT 43 (0, [some (zR 8 0), some (zI a1)], [], M, true) Q := by
  refine zT.it 3 (t := (5, [some (zR 8 0), some (zI a1)], [zI (M.1 8 0 3), zR 8 0], M, true)) rfl ?_
  refine zT.call (m := 31) (as := [zR 8 0, zI (M.1 8 0 3)]) (M := M) (L := [some (zR 8 0), some (zI a1)]) (st := []) (pn := 8) (cl := true) rfl ?_
  refine zF.mono h (fun v M1 h cl1 => ?_)
  obtain ⟨r1, e1, h⟩ := h; subst e1; replace h := h cl1
  show zT 43 (8, [some (zR 8 0), some (zI a1)], [zR 10 r1], M1, cl1) _
  refine zT.it 1 (t := (9, [some (zR 8 0), some (zI a1)], [zI a1, zR 10 r1], M1, cl1)) rfl ?_
  refine zT.call (m := 42) (as := [zR 10 r1, zI a1]) (M := M1) (L := [some (zR 8 0), some (zI a1)]) (st := []) (pn := 12) (cl := cl1) rfl ?_
  refine zF.mono h (fun v M2 h cl2 => ?_)
  obtain ⟨e2, h⟩ := h; subst e2; replace h := h cl2
  show zT 43 (12, [some (zR 8 0), some (zI a1)], [], M2, cl2) _
  refine zT.it 7 (t := (23, [some (zR 8 0), some (zI a1)], [zR 8 0], (z_w M2 8 0 3 ((M2.1 8 0 3) + 1)), false)) rfl ?_
  refine zT.call (m := 38) (as := [zR 8 0]) (M := (z_w M2 8 0 3 ((M2.1 8 0 3) + 1))) (L := [some (zR 8 0), some (zI a1)]) (st := []) (pn := 26) (cl := false) rfl ?_
  refine zF.mono h (fun v M3 h cl3 => ?_)
  obtain ⟨e3, h⟩ := h; subst e3; replace h := h cl3
  show zT 43 (26, [some (zR 8 0), some (zI a1)], [], M3, cl3) _
  exact zT.ret (v := none) rfl trivial h
theorem g44_0 {M : zM} {Q : zQ} (h : zF 29 [zR 8 0] M (fun v M1 => ∃ r1 : Int, v = some (zI r1) ∧ ∀ cl1 : Bool, (zr r1) ∧ ((r1 = 0 → zF 22 [zR 6 0, zI 80] M1 (fun v M2 => ∃ r2 : Int, v = some (zI r2) ∧ ∀ cl2 : Bool, zF 43 [zR 8 0, zI r2] M2 (fun v M3 => v = none ∧ ∀ cl3 : Bool, Q (.inl (some (zI 0))) M3 cl3 0))) ∧ (¬ (r1 = 0) → Q (.inl (some (zI (-2)))) M1 cl1 0)))) : zT 44 (0, [some (zR 0 0)], [], M, true) Q := by
  refine zT.it 2 (t := (4, [some (zR 0 0)], [zR 8 0], M, true)) rfl ?_
  refine zT.call (m := 29) (as := [zR 8 0]) (M := M) (L := [some (zR 0 0)]) (st := []) (pn := 7) (cl := true) rfl ?_
  refine zF.mono h (fun v M1 h cl1 => ?_)
  obtain ⟨r1, e1, h⟩ := h; subst e1; replace h := h cl1
  show zT 44 (7, [some (zR 0 0)], [zI r1], M1, cl1) _
  refine zT.br (g := zr r1) (p := r1 = 0) (t := (13, [some (zR 0 0)], [], M1, cl1)) (u := (10, [some (zR 0 0)], [], M1, cl1)) rfl h.1 (fun c => ?_) (fun c => ?_)
  · replace h := h.2.1 c
    refine zT.it 5 (t := (23, [some (zR 0 0)], [zI 80, zR 6 0, zR 8 0], M1, cl1)) rfl ?_
    refine zT.call (m := 22) (as := [zR 6 0, zI 80]) (M := M1) (L := [some (zR 0 0)]) (st := [zR 8 0]) (pn := 26) (cl := cl1) rfl ?_
    refine zF.mono h (fun v M2 h cl2 => ?_)
    obtain ⟨r2, e2, h⟩ := h; subst e2; replace h := h cl2
    show zT 44 (26, [some (zR 0 0)], [zI r2, zR 8 0], M2, cl2) _
    refine zT.call (m := 43) (as := [zR 8 0, zI r2]) (M := M2) (L := [some (zR 0 0)]) (st := []) (pn := 29) (cl := cl2) rfl ?_
    refine zF.mono h (fun v M3 h cl3 => ?_)
    obtain ⟨e3, h⟩ := h; subst e3; replace h := h cl3
    show zT 44 (29, [some (zR 0 0)], [], M3, cl3) _
    refine zT.it 1 (t := (30, [some (zR 0 0)], [zI 0], M3, cl3)) rfl ?_
    exact zT.ret (v := some (zI 0)) rfl (by first | exact trivial | decide) h
  · replace h := h.2.2 c
    refine zT.it 1 (t := (12, [some (zR 0 0)], [zI (-2)], M1, cl1)) rfl ?_
    exact zT.ret (v := some (zI (-2))) rfl (by first | exact trivial | decide) h
theorem g45_0 {M : zM} {Q : zQ} (h : zT 45 (2, [some (zR 0 0), some (zI 0), none], [], M, true) Q) : zT 45 (0, [some (zR 0 0), none, none], [], M, true) Q := by
  refine zT.it 2 (t := (2, [some (zR 0 0), some (zI 0), none], [], M, true)) rfl ?_
  exact h
theorem g45_2a0 {u2 : Option zV} {M : zM} {cl : Bool} {Q : zQ} (h : zF 20 [zR 6 0, zI (z_chr 0)] M (fun v M1 => ∃ r1 : Int, v = some (zI r1) ∧ ∀ cl1 : Bool, (zr r1) ∧ ((r1 = 0 → zT 45 (2, [some (zR 0 0), some (zI 1), some (zI (z_chr 0))], [], M1, cl1) Q) ∧ (¬ (r1 = 0) → zF 22 [zR 6 0, zI (z_chr 0)] M1 (fun v M2 => ∃ r2 : Int, v = some (zI r2) ∧ ∀ cl2 : Bool, zT 45 (2, [some (zR 0 0), some (zI 1), some (zI (z_chr 0))], [], (z_w M2 16 0 0 ((M1.1 15 0 0) - r2)), false) Q))))) : zT 45 (2, [some (zR 0 0), some (zI 0), u2], [], M, cl) Q := by
  refine zT.it 2 (t := (4, [some (zR 0 0), some (zI 0), u2], [zI 3, zI 0], M, cl)) rfl ?_
  refine zT.br (g := zr 0 ∧ zr 3) (p := 3 ≤ 0) (t := (52, [some (zR 0 0), some (zI 0), u2], [], M, cl)) (u := (7, [some (zR 0 0), some (zI 0), u2], [], M, cl)) rfl (by decide) (fun c => absurd c (by decide)) (fun c => ?_)
  refine zT.it 2 (t := (10, [some (zR 0 0), some (zI 0), u2], [zI 0, zR 33 0], M, cl)) rfl ?_
  refine zT.chk (t := (13, [some (zR 0 0), some (zI 0), u2], [zI (z_chr 0)], M, cl)) rfl (by first | decide | (dsimp only; decide)) ?_
  refine zT.it 4 (t := (19, [some (zR 0 0), some (zI 0), some (zI (z_chr 0))], [zI (z_chr 0), zR 6 0], M, cl)) rfl ?_
  refine zT.call (m := 20) (as := [zR 6 0, zI (z_chr 0)]) (M := M) (L := [some (zR 0 0), some (zI 0), some (zI (z_chr 0))]) (st := []) (pn := 22) (cl := cl) rfl ?_
  refine zF.mono h (fun v M1 h cl1 => ?_)
  obtain ⟨r1, e1, h⟩ := h; subst e1; replace h := h cl1
  show zT 45 (22, [some (zR 0 0), some (zI 0), some (zI (z_chr 0))], [zI r1], M1, cl1) _
  refine zT.br (g := zr r1) (p := r1 = 0) (t := (46, [some (zR 0 0), some (zI 0), some (zI (z_chr 0))], [], M1, cl1)) (u := (25, [some (zR 0 0), some (zI 0), some (zI (z_chr 0))], [], M1, cl1)) rfl h.1 (fun c => ?_) (fun c => ?_)
  · replace h := h.2.1 c
    refine zT.it 2 (t := (2, [some (zR 0 0), some (zI 1), some (zI (z_chr 0))], [], M1, cl1)) rfl ?_
    exact h
  · replace h := h.2.2 c
    refine zT.it 6 (t := (35, [some (zR 0 0), some (zI 0), some (zI (z_chr 0))], [zI 0, zR 15 0, zI 0, zR 16 0], M1, cl1)) rfl ?_
    refine zT.chk (t := (36, [some (zR 0 0), some (zI 0), some (zI (z_chr 0))], [zI (M1.1 15 0 0), zI 0, zR 16 0], M1, cl1)) rfl (by first | decide | (dsimp only; decide)) ?_
    refine zT.it 3 (t := (41, [some (zR 0 0), some (zI 0), some (zI (z_chr 0))], [zI (z_chr 0), zR 6 0, zI (M1.1 15 0 0), zI 0, zR 16 0], M1, cl1)) rfl ?_
    refine zT.call (m := 22) (as := [zR 6 0, zI (z_chr 0)]) (M := M1) (L := [some (zR 0 0), some (zI 0), some (zI (z_chr 0))]) (st := [zI (M1.1 15 0 0), zI 0, zR 16 0]) (pn := 44) (cl := cl1) rfl ?_
    refine zF.mono h (fun v M2 h cl2 => ?_)
    obtain ⟨r2, e2, h⟩ := h; subst e2; replace h := h cl2
    show zT 45 (44, [some (zR 0 0), some (zI 0), some (zI (z_chr 0))], [zI r2, zI (M1.1 15 0 0), zI 0, zR 16 0], M2, cl2) _
    refine zT.it 1 (t := (45, [some (zR 0 0), some (zI 0), some (zI (z_chr 0))], [zI ((M1.1 15 0 0) - r2), zI 0, zR 16 0], M2, cl2)) rfl ?_
    refine zT.chk (t := (46, [some (zR 0 0), some (zI 0), some (zI (z_chr 0))], [], (z_w M2 16 0 0 ((M1.1 15 0 0) - r2)), false)) rfl (by first | decide | (dsimp only; decide)) ?_
    refine zT.it 2 (t := (2, [some (zR 0 0), some (zI 1), some (zI (z_chr 0))], [], (z_w M2 16 0 0 ((M1.1 15 0 0) - r2)), false)) rfl ?_
    exact h
theorem g45_2a1 {u2 : Option zV} {M : zM} {cl : Bool} {Q : zQ} (h : zF 20 [zR 6 0, zI (z_chr 1)] M (fun v M3 => ∃ r3 : Int, v = some (zI r3) ∧ ∀ cl3 : Bool, (zr r3) ∧ ((r3 = 0 → zT 45 (2, [some (zR 0 0), some (zI 2), some (zI (z_chr 1))], [], M3, cl3) Q) ∧ (¬ (r3 = 0) → zF 22 [zR 6 0, zI (z_chr 1)] M3 (fun v M4 => ∃ r4 : Int, v = some (zI r4) ∧ ∀ cl4 : Bool, zT 45 (2, [some (zR 0 0), some (zI 2), some (zI (z_chr 1))], [], (z_w M4 16 0 1 ((M3.1 15 0 1) - r4)), false) Q))))) : zT 45 (2, [some (zR 0 0), some (zI 1), u2], [], M, cl) Q := by
  refine zT.it 2 (t := (4, [some (zR 0 0), some (zI 1), u2], [zI 3, zI 1], M, cl)) rfl ?_
  refine zT.br (g := zr 1 ∧ zr 3) (p := 3 ≤ 1) (t := (52, [some (zR 0 0), some (zI 1), u2], [], M, cl)) (u := (7, [some (zR 0 0), some (zI 1), u2], [], M, cl)) rfl (by decide) (fun c => absurd c (by decide)) (fun c => ?_)
  refine zT.it 2 (t := (10, [some (zR 0 0), some (zI 1), u2], [zI 1, zR 33 0], M, cl)) rfl ?_
  refine zT.chk (t := (13, [some (zR 0 0), some (zI 1), u2], [zI (z_chr 1)], M, cl)) rfl (by first | decide | (dsimp only; decide)) ?_
  refine zT.it 4 (t := (19, [some (zR 0 0), some (zI 1), some (zI (z_chr 1))], [zI (z_chr 1), zR 6 0], M, cl)) rfl ?_
  refine zT.call (m := 20) (as := [zR 6 0, zI (z_chr 1)]) (M := M) (L := [some (zR 0 0), some (zI 1), some (zI (z_chr 1))]) (st := []) (pn := 22) (cl := cl) rfl ?_
  refine zF.mono h (fun v M3 h cl3 => ?_)
  obtain ⟨r3, e3, h⟩ := h; subst e3; replace h := h cl3
  show zT 45 (22, [some (zR 0 0), some (zI 1), some (zI (z_chr 1))], [zI r3], M3, cl3) _
  refine zT.br (g := zr r3) (p := r3 = 0) (t := (46, [some (zR 0 0), some (zI 1), some (zI (z_chr 1))], [], M3, cl3)) (u := (25, [some (zR 0 0), some (zI 1), some (zI (z_chr 1))], [], M3, cl3)) rfl h.1 (fun c => ?_) (fun c => ?_)
  · replace h := h.2.1 c
    refine zT.it 2 (t := (2, [some (zR 0 0), some (zI 2), some (zI (z_chr 1))], [], M3, cl3)) rfl ?_
    exact h
  · replace h := h.2.2 c
    refine zT.it 6 (t := (35, [some (zR 0 0), some (zI 1), some (zI (z_chr 1))], [zI 1, zR 15 0, zI 1, zR 16 0], M3, cl3)) rfl ?_
    refine zT.chk (t := (36, [some (zR 0 0), some (zI 1), some (zI (z_chr 1))], [zI (M3.1 15 0 1), zI 1, zR 16 0], M3, cl3)) rfl (by first | decide | (dsimp only; decide)) ?_
    refine zT.it 3 (t := (41, [some (zR 0 0), some (zI 1), some (zI (z_chr 1))], [zI (z_chr 1), zR 6 0, zI (M3.1 15 0 1), zI 1, zR 16 0], M3, cl3)) rfl ?_
    refine zT.call (m := 22) (as := [zR 6 0, zI (z_chr 1)]) (M := M3) (L := [some (zR 0 0), some (zI 1), some (zI (z_chr 1))]) (st := [zI (M3.1 15 0 1), zI 1, zR 16 0]) (pn := 44) (cl := cl3) rfl ?_
    refine zF.mono h (fun v M4 h cl4 => ?_)
    obtain ⟨r4, e4, h⟩ := h; subst e4; replace h := h cl4
    show zT 45 (44, [some (zR 0 0), some (zI 1), some (zI (z_chr 1))], [zI r4, zI (M3.1 15 0 1), zI 1, zR 16 0], M4, cl4) _
    refine zT.it 1 (t := (45, [some (zR 0 0), some (zI 1), some (zI (z_chr 1))], [zI ((M3.1 15 0 1) - r4), zI 1, zR 16 0], M4, cl4)) rfl ?_
    refine zT.chk (t := (46, [some (zR 0 0), some (zI 1), some (zI (z_chr 1))], [], (z_w M4 16 0 1 ((M3.1 15 0 1) - r4)), false)) rfl (by first | decide | (dsimp only; decide)) ?_
    refine zT.it 2 (t := (2, [some (zR 0 0), some (zI 2), some (zI (z_chr 1))], [], (z_w M4 16 0 1 ((M3.1 15 0 1) - r4)), false)) rfl ?_
    exact h
theorem g45_2a2 {u2 : Option zV} {M : zM} {cl : Bool} {Q : zQ} (h : zF 20 [zR 6 0, zI (z_chr 2)] M (fun v M5 => ∃ r5 : Int, v = some (zI r5) ∧ ∀ cl5 : Bool, (zr r5) ∧ ((r5 = 0 → zT 45 (2, [some (zR 0 0), some (zI 3), some (zI (z_chr 2))], [], M5, cl5) Q) ∧ (¬ (r5 = 0) → zF 22 [zR 6 0, zI (z_chr 2)] M5 (fun v M6 => ∃ r6 : Int, v = some (zI r6) ∧ ∀ cl6 : Bool, zT 45 (2, [some (zR 0 0), some (zI 3), some (zI (z_chr 2))], [], (z_w M6 16 0 2 ((M5.1 15 0 2) - r6)), false) Q))))) : zT 45 (2, [some (zR 0 0), some (zI 2), u2], [], M, cl) Q := by
  refine zT.it 2 (t := (4, [some (zR 0 0), some (zI 2), u2], [zI 3, zI 2], M, cl)) rfl ?_
  refine zT.br (g := zr 2 ∧ zr 3) (p := 3 ≤ 2) (t := (52, [some (zR 0 0), some (zI 2), u2], [], M, cl)) (u := (7, [some (zR 0 0), some (zI 2), u2], [], M, cl)) rfl (by decide) (fun c => absurd c (by decide)) (fun c => ?_)
  refine zT.it 2 (t := (10, [some (zR 0 0), some (zI 2), u2], [zI 2, zR 33 0], M, cl)) rfl ?_
  refine zT.chk (t := (13, [some (zR 0 0), some (zI 2), u2], [zI (z_chr 2)], M, cl)) rfl (by first | decide | (dsimp only; decide)) ?_
  refine zT.it 4 (t := (19, [some (zR 0 0), some (zI 2), some (zI (z_chr 2))], [zI (z_chr 2), zR 6 0], M, cl)) rfl ?_
  refine zT.call (m := 20) (as := [zR 6 0, zI (z_chr 2)]) (M := M) (L := [some (zR 0 0), some (zI 2), some (zI (z_chr 2))]) (st := []) (pn := 22) (cl := cl) rfl ?_
  refine zF.mono h (fun v M5 h cl5 => ?_)
  obtain ⟨r5, e5, h⟩ := h; subst e5; replace h := h cl5
  show zT 45 (22, [some (zR 0 0), some (zI 2), some (zI (z_chr 2))], [zI r5], M5, cl5) _
  refine zT.br (g := zr r5) (p := r5 = 0) (t := (46, [some (zR 0 0), some (zI 2), some (zI (z_chr 2))], [], M5, cl5)) (u := (25, [some (zR 0 0), some (zI 2), some (zI (z_chr 2))], [], M5, cl5)) rfl h.1 (fun c => ?_) (fun c => ?_)
  · replace h := h.2.1 c
    refine zT.it 2 (t := (2, [some (zR 0 0), some (zI 3), some (zI (z_chr 2))], [], M5, cl5)) rfl ?_
    exact h
  · replace h := h.2.2 c
    refine zT.it 6 (t := (35, [some (zR 0 0), some (zI 2), some (zI (z_chr 2))], [zI 2, zR 15 0, zI 2, zR 16 0], M5, cl5)) rfl ?_
    refine zT.chk (t := (36, [some (zR 0 0), some (zI 2), some (zI (z_chr 2))], [zI (M5.1 15 0 2), zI 2, zR 16 0], M5, cl5)) rfl (by first | decide | (dsimp only; decide)) ?_
    refine zT.it 3 (t := (41, [some (zR 0 0), some (zI 2), some (zI (z_chr 2))], [zI (z_chr 2), zR 6 0, zI (M5.1 15 0 2), zI 2, zR 16 0], M5, cl5)) rfl ?_
    refine zT.call (m := 22) (as := [zR 6 0, zI (z_chr 2)]) (M := M5) (L := [some (zR 0 0), some (zI 2), some (zI (z_chr 2))]) (st := [zI (M5.1 15 0 2), zI 2, zR 16 0]) (pn := 44) (cl := cl5) rfl ?_
    refine zF.mono h (fun v M6 h cl6 => ?_)
    obtain ⟨r6, e6, h⟩ := h; subst e6; replace h := h cl6
    show zT 45 (44, [some (zR 0 0), some (zI 2), some (zI (z_chr 2))], [zI r6, zI (M5.1 15 0 2), zI 2, zR 16 0], M6, cl6) _
    refine zT.it 1 (t := (45, [some (zR 0 0), some (zI 2), some (zI (z_chr 2))], [zI ((M5.1 15 0 2) - r6), zI 2, zR 16 0], M6, cl6)) rfl ?_
    refine zT.chk (t := (46, [some (zR 0 0), some (zI 2), some (zI (z_chr 2))], [], (z_w M6 16 0 2 ((M5.1 15 0 2) - r6)), false)) rfl (by first | decide | (dsimp only; decide)) ?_
    refine zT.it 2 (t := (2, [some (zR 0 0), some (zI 3), some (zI (z_chr 2))], [], (z_w M6 16 0 2 ((M5.1 15 0 2) - r6)), false)) rfl ?_
    exact h
theorem g45_2a3 {u2 : Option zV} {M : zM} {cl : Bool} {Q : zQ} (h : Q (.inl none) M cl 0) : zT 45 (2, [some (zR 0 0), some (zI 3), u2], [], M, cl) Q := by
  refine zT.it 2 (t := (4, [some (zR 0 0), some (zI 3), u2], [zI 3, zI 3], M, cl)) rfl ?_
  refine zT.br (g := zr 3 ∧ zr 3) (p := 3 ≤ 3) (t := (52, [some (zR 0 0), some (zI 3), u2], [], M, cl)) (u := (7, [some (zR 0 0), some (zI 3), u2], [], M, cl)) rfl (by decide) (fun c => ?_) (fun c => absurd (by decide) c)
  exact zT.ret (v := none) rfl trivial h
theorem g46_0 {M : zM} {Q : zQ} (h : zF 25 [zR 6 0, zR 3 0] M (fun v M1 => ∃ r1 : Int, v = some (zI r1) ∧ ∀ cl1 : Bool, (zr r1) ∧ ((¬ r1 = 0 → (zr (M1.1 6 0 2)) ∧ (M1.1 6 0 2 = 1 → zF 41 [zR 0 0] M1 (fun v M2 => ∃ r2 : Int, v = some (zI r2) ∧ ∀ cl2 : Bool, Q (.inl (some (zI r2))) M2 cl2 0)) ∧ (M1.1 6 0 2 = 4 → zF 44 [zR 0 0] M1 (fun v M3 => ∃ r3 : Int, v = some (zI r3) ∧ ∀ cl3 : Bool, Q (.inl (some (zI r3))) M3 cl3 0)) ∧ (M1.1 6 0 2 = 92 → zF 45 [zR 0 0] M1 (fun v M4 => v = none ∧ ∀ cl4 : Bool, Q (.inl (some (zI 0))) M4 cl4 0)) ∧ (¬ (M1.1 6 0 2 = 1) → ¬ (M1.1 6 0 2 = 4) → ¬ (M1.1 6 0 2 = 92) → (zr (M1.1 6 0 2) ∧ zr 91) ∧ ((¬ (M1.1 6 0 2) = 91 → Q (.inl (some (zI 0))) (z_w M1 0 0 12 0) false 0) ∧ ((M1.1 6 0 2) = 91 → Q (.inl (some (zI 0))) (z_w M1 0 0 12 1) false 0)))) ∧ (r1 = 0 → Q (.inl (some (zI (-3)))) M1 cl1 0)))) : zT 46 (0, [some (zR 0 0)], [], M, true) Q := by
  refine zT.it 4 (t := (8, [some (zR 0 0)], [zR 3 0, zR 6 0], M, true)) rfl ?_
  refine zT.call (m := 25) (as := [zR 6 0, zR 3 0]) (M := M) (L := [some (zR 0 0)]) (st := []) (pn := 11) (cl := true) rfl ?_
  refine zF.mono h (fun v M1 h cl1 => ?_)
  obtain ⟨r1, e1, h⟩ := h; subst e1; replace h := h cl1
  show zT 46 (11, [some (zR 0 0)], [zI r1], M1, cl1) _
  refine zT.br (g := zr r1) (p := ¬ r1 = 0) (t := (17, [some (zR 0 0)], [], M1, cl1)) (u := (14, [some (zR 0 0)], [], M1, cl1)) rfl h.1 (fun c => ?_) (fun c => ?_)
  · replace h := h.2.1 c
    refine zT.it 3 (t := (24, [some (zR 0 0)], [zI (M1.1 6 0 2)], M1, cl1)) rfl ?_
    refine zT.it 1 (t := (xm_lsw 24 52 #[(1, 36), (4, 41), (92, 46)] (zi (M1.1 6 0 2)), [some (zR 0 0)], [], M1, cl1)) rfl ?_
    obtain ⟨hx, h⟩ := h
    by_cases c1 : M1.1 6 0 2 = 1
    · replace h := h.1 c1
      rw [show xm_lsw 24 52 #[(1, 36), (4, 41), (92, 46)] (zi (M1.1 6 0 2)) = 60 from (by rw [c1]; rfl)]
      refine zT.it 1 (t := (61, [some (zR 0 0)], [zR 0 0], M1, cl1)) rfl ?_
      refine zT.call (m := 41) (as := [zR 0 0]) (M := M1) (L := [some (zR 0 0)]) (st := []) (pn := 64) (cl := cl1) rfl ?_
      refine zF.mono h (fun v M2 h cl2 => ?_)
      obtain ⟨r2, e2, h⟩ := h; subst e2; replace h := h cl2
      show zT 46 (64, [some (zR 0 0)], [zI r2], M2, cl2) _
      exact zT.ret (v := some (zI r2)) rfl (by first | exact trivial | decide) h
    replace h := h.2
    by_cases c4 : M1.1 6 0 2 = 4
    · replace h := h.1 c4
      rw [show xm_lsw 24 52 #[(1, 36), (4, 41), (92, 46)] (zi (M1.1 6 0 2)) = 65 from (by rw [c4]; rfl)]
      refine zT.it 1 (t := (66, [some (zR 0 0)], [zR 0 0], M1, cl1)) rfl ?_
      refine zT.call (m := 44) (as := [zR 0 0]) (M := M1) (L := [some (zR 0 0)]) (st := []) (pn := 69) (cl := cl1) rfl ?_
      refine zF.mono h (fun v M3 h cl3 => ?_)
      obtain ⟨r3, e3, h⟩ := h; subst e3; replace h := h cl3
      show zT 46 (69, [some (zR 0 0)], [zI r3], M3, cl3) _
      exact zT.ret (v := some (zI r3)) rfl (by first | exact trivial | decide) h
    replace h := h.2
    by_cases c92 : M1.1 6 0 2 = 92
    · replace h := h.1 c92
      rw [show xm_lsw 24 52 #[(1, 36), (4, 41), (92, 46)] (zi (M1.1 6 0 2)) = 70 from (by rw [c92]; rfl)]
      refine zT.it 1 (t := (71, [some (zR 0 0)], [zR 0 0], M1, cl1)) rfl ?_
      refine zT.call (m := 45) (as := [zR 0 0]) (M := M1) (L := [some (zR 0 0)]) (st := []) (pn := 74) (cl := cl1) rfl ?_
      refine zF.mono h (fun v M4 h cl4 => ?_)
      obtain ⟨e4, h⟩ := h; subst e4; replace h := h cl4
      show zT 46 (74, [some (zR 0 0)], [], M4, cl4) _
      refine zT.it 1 (t := (75, [some (zR 0 0)], [zI 0], M4, cl4)) rfl ?_
      exact zT.ret (v := some (zI 0)) rfl (by first | exact trivial | decide) h
    replace h := h.2
    replace h := h c1 c4 c92
    rw [show xm_lsw 24 52 #[(1, 36), (4, 41), (92, 46)] (zi (M1.1 6 0 2)) = 76 from z_lsw_x hx (by simp; omega) rfl]
    refine zT.it 5 (t := (86, [some (zR 0 0)], [zI 91, zI (M1.1 6 0 2), zR 0 0], M1, cl1)) rfl ?_
    refine zT.br (g := zr (M1.1 6 0 2) ∧ zr 91) (p := ¬ (M1.1 6 0 2) = 91) (t := (93, [some (zR 0 0)], [zR 0 0], M1, cl1)) (u := (89, [some (zR 0 0)], [zR 0 0], M1, cl1)) rfl h.1 (fun c => ?_) (fun c => ?_)
    · replace h := h.2.1 c
      refine zT.it 1 (t := (94, [some (zR 0 0)], [zI 0, zR 0 0], M1, cl1)) rfl ?_
      refine zT.chk (t := (97, [some (zR 0 0)], [], (z_w M1 0 0 12 0), false)) rfl (by first | decide | (dsimp only; decide)) ?_
      refine zT.it 1 (t := (98, [some (zR 0 0)], [zI 0], (z_w M1 0 0 12 0), false)) rfl ?_
      exact zT.ret (v := some (zI 0)) rfl (by first | exact trivial | decide) h
    · replace h := h.2.2 (Decidable.not_not.1 c)
      refine zT.it 2 (t := (94, [some (zR 0 0)], [zI 1, zR 0 0], M1, cl1)) rfl ?_
      refine zT.chk (t := (97, [some (zR 0 0)], [], (z_w M1 0 0 12 1), false)) rfl (by first | decide | (dsimp only; decide)) ?_
      refine zT.it 1 (t := (98, [some (zR 0 0)], [zI 0], (z_w M1 0 0 12 1), false)) rfl ?_
      exact zT.ret (v := some (zI 0)) rfl (by first | exact trivial | decide) h
  · replace h := h.2.2 (Decidable.not_not.1 c)
    refine zT.it 1 (t := (16, [some (zR 0 0)], [zI (-3)], M1, cl1)) rfl ?_
    exact zT.ret (v := some (zI (-3))) rfl (by first | exact trivial | decide) h
theorem g47_0 {M : zM} {Q : zQ} (h : zF 17 [zR 3 0, zR 1 0] M (fun v M1 => ∃ r1 : Int, v = some (zI r1) ∧ ∀ cl1 : Bool, (zr r1) ∧ ((r1 = 0 → Q (.inl (some (zI (-1)))) M1 cl1 0) ∧ (¬ (r1 = 0) → zF 18 [zR 3 0] M1 (fun v M2 => ∃ r2 : Int, v = some (zI r2) ∧ ∀ cl2 : Bool, (zr r2 ∧ zr (M2.1 0 0 14)) ∧ ((r2 = (M2.1 0 0 14) → zF 46 [zR 0 0] M2 (fun v M3 => ∃ r3 : Int, v = some (zI r3) ∧ ∀ cl3 : Bool, (zr r3 ∧ zr (-2)) ∧ ((¬ r3 = (-2) → (zr r3 ∧ zr (-3)) ∧ ((¬ r3 = (-3) → Q (.inl (some (zI (M3.1 0 0 14)))) (z_w M3 0 0 14 ((M3.1 0 0 14) + 1)) false 0) ∧ (r3 = (-3) → Q (.inl (some (zI (-3)))) (z_w M3 0 0 14 ((M3.1 0 0 14) + 1)) false 0))) ∧ (r3 = (-2) → Q (.inl (some (zI (-2)))) M3 cl3 0)))) ∧ (¬ (r2 = (M2.1 0 0 14)) → Q (.inl (some (zI (-1)))) M2 cl2 0))))))) : zT 47 (0, [some (zR 0 0), none, none], [], M, true) Q := by
  refine zT.it 4 (t := (8, [some (zR 0 0), none, none], [zR 1 0, zR 3 0], M, true)) rfl ?_
  refine zT.call (m := 17) (as := [zR 3 0, zR 1 0]) (M := M) (L := [some (zR 0 0), none, none]) (st := []) (pn := 11) (cl := true) rfl ?_
  refine zF.mono h (fun v M1 h cl1 => ?_)
  obtain ⟨r1, e1, h⟩ := h; subst e1; replace h := h cl1
  show zT 47 (11, [some (zR 0 0), none, none], [zI r1], M1, cl1) _
  refine zT.br (g := zr r1) (p := r1 = 0) (t := (28, [some (zR 0 0), none, none], [], M1, cl1)) (u := (14, [some (zR 0 0), none, none], [], M1, cl1)) rfl h.1 (fun c => ?_) (fun c => ?_)
  · replace h := h.2.1 c
    refine zT.it 1 (t := (29, [some (zR 0 0), none, none], [zI (-1)], M1, cl1)) rfl ?_
    exact zT.ret (v := some (zI (-1))) rfl (by first | exact trivial | decide) h
  · replace h := h.2.2 c
    refine zT.it 2 (t := (18, [some (zR 0 0), none, none], [zR 3 0], M1, cl1)) rfl ?_
    refine zT.call (m := 18) (as := [zR 3 0]) (M := M1) (L := [some (zR 0 0), none, none]) (st := []) (pn := 21) (cl := cl1) rfl ?_
    refine zF.mono h (fun v M2 h cl2 => ?_)
    obtain ⟨r2, e2, h⟩ := h; subst e2; replace h := h cl2
    show zT 47 (21, [some (zR 0 0), none, none], [zI r2], M2, cl2) _
    refine zT.it 2 (t := (25, [some (zR 0 0), none, none], [zI (M2.1 0 0 14), zI r2], M2, cl2)) rfl ?_
    refine zT.br (g := zr r2 ∧ zr (M2.1 0 0 14)) (p := r2 = (M2.1 0 0 14)) (t := (30, [some (zR 0 0), none, none], [], M2, cl2)) (u := (28, [some (zR 0 0), none, none], [], M2, cl2)) rfl h.1 (fun c => ?_) (fun c => ?_)
    · replace h := h.2.1 c
      refine zT.it 1 (t := (31, [some (zR 0 0), none, none], [zR 0 0], M2, cl2)) rfl ?_
      refine zT.call (m := 46) (as := [zR 0 0]) (M := M2) (L := [some (zR 0 0), none, none]) (st := []) (pn := 34) (cl := cl2) rfl ?_
      refine zF.mono h (fun v M3 h cl3 => ?_)
      obtain ⟨r3, e3, h⟩ := h; subst e3; replace h := h cl3
      show zT 47 (34, [some (zR 0 0), none, none], [zI r3], M3, cl3) _
      refine zT.it 3 (t := (38, [some (zR 0 0), some (zI r3), none], [zI (-2), zI r3], M3, cl3)) rfl ?_
      refine zT.br (g := zr r3 ∧ zr (-2)) (p := ¬ r3 = (-2)) (t := (44, [some (zR 0 0), some (zI r3), none], [], M3, cl3)) (u := (41, [some (zR 0 0), some (zI r3), none], [], M3, cl3)) rfl h.1 (fun c => ?_) (fun c => ?_)
      · replace h := h.2.1 c
        refine zT.it 11 (t := (62, [some (zR 0 0), some (zI r3), some (zI (M3.1 0 0 14))], [zI (-3), zI r3], (z_w M3 0 0 14 ((M3.1 0 0 14) + 1)), false)) rfl ?_
        refine zT.br (g := zr r3 ∧ zr (-3)) (p := ¬ r3 = (-3)) (t := (70, [some (zR 0 0), some (zI r3), some (zI (M3.1 0 0 14))], [], (z_w M3 0 0 14 ((M3.1 0 0 14) + 1)), false)) (u := (65, [some (zR 0 0), some (zI r3), some (zI (M3.1 0 0 14))], [], (z_w M3 0 0 14 ((M3.1 0 0 14) + 1)), false)) rfl h.1 (fun c => ?_) (fun c => ?_)
        · replace h := h.2.1 c
          refine zT.it 1 (t := (71, [some (zR 0 0), some (zI r3), some (zI (M3.1 0 0 14))], [zI (M3.1 0 0 14)], (z_w M3 0 0 14 ((M3.1 0 0 14) + 1)), false)) rfl ?_
          exact zT.ret (v := some (zI (M3.1 0 0 14))) rfl (by first | exact trivial | decide) h
        · replace h := h.2.2 (Decidable.not_not.1 c)
          refine zT.it 2 (t := (71, [some (zR 0 0), some (zI r3), some (zI (M3.1 0 0 14))], [zI (-3)], (z_w M3 0 0 14 ((M3.1 0 0 14) + 1)), false)) rfl ?_
          exact zT.ret (v := some (zI (-3))) rfl (by first | exact trivial | decide) h
      · replace h := h.2.2 (Decidable.not_not.1 c)
        refine zT.it 1 (t := (43, [some (zR 0 0), some (zI r3), none], [zI (-2)], M3, cl3)) rfl ?_
        exact zT.ret (v := some (zI (-2))) rfl (by first | exact trivial | decide) h
    · replace h := h.2.2 c
      refine zT.it 1 (t := (29, [some (zR 0 0), none, none], [zI (-1)], M2, cl2)) rfl ?_
      exact zT.ret (v := some (zI (-1))) rfl (by first | exact trivial | decide) h
theorem g48_0 {M : zM} {Q : zQ} (h : zX 7 [zR 0 0] M (fun v M1 c => c = true ∧ v = none ∧ zF 47 [zR 0 0] M1 (fun v M2 => ∃ r2 : Int, v = some (zI r2) ∧ ∀ cl2 : Bool, zF 4 [zR 1 0] M2 (fun v M3 => ∃ r3 : Int, v = some (zI r3) ∧ ∀ cl3 : Bool, Q (.inl (some (zI r2))) M3 cl3 0))) (fun x M1 => Q (.inr x) M1 true 1)) : zT 48 (0, [some (zR 0 0), none], [], M, true) Q := by
  refine zT.it 1 (t := (1, [some (zR 0 0), none], [zR 0 0], M, true)) rfl ?_
  refine zT.callx (m := 7) (as := [zR 0 0]) (M := M) (L := [some (zR 0 0), none]) (st := []) (pn := 4) (cl := true) rfl rfl rfl ?_
  refine zX.mono h (fun v M1 c h => ?_) (fun _ _ h => ⟨rfl, h⟩)
  obtain ⟨hc, e1, h⟩ := h; subst hc; subst e1
  show zT 48 (4, [some (zR 0 0), none], [], M1, true) _
  refine zT.it 1 (t := (5, [some (zR 0 0), none], [zR 0 0], M1, true)) rfl ?_
  refine zT.call (m := 47) (as := [zR 0 0]) (M := M1) (L := [some (zR 0 0), none]) (st := []) (pn := 8) (cl := true) rfl ?_
  refine zF.mono h (fun v M2 h cl2 => ?_)
  obtain ⟨r2, e2, h⟩ := h; subst e2; replace h := h cl2
  show zT 48 (8, [some (zR 0 0), none], [zI r2], M2, cl2) _
  refine zT.it 3 (t := (13, [some (zR 0 0), some (zI r2)], [zR 1 0], M2, cl2)) rfl ?_
  refine zT.call (m := 4) (as := [zR 1 0]) (M := M2) (L := [some (zR 0 0), some (zI r2)]) (st := []) (pn := 16) (cl := cl2) rfl ?_
  refine zF.mono h (fun v M3 h cl3 => ?_)
  obtain ⟨r3, e3, h⟩ := h; subst e3; replace h := h cl3
  show zT 48 (16, [some (zR 0 0), some (zI r2)], [zI r3], M3, cl3) _
  refine zT.it 2 (t := (18, [some (zR 0 0), some (zI r2)], [zI r2], M3, cl3)) rfl ?_
  exact zT.ret (v := some (zI r2)) rfl (by first | exact trivial | decide) h
theorem g49_0 {M : zM} {Q : zQ} (h : zX 48 [zR 0 0] M (fun v M1 c => ∃ r1 : Int, v = some (zI r1) ∧ ∀ cl1 : Bool, (zr r1) ∧ (Q (.inl (some (zI 0))) (z_wl M1 31 0 0 r1) false 0)) (fun x M1 => ∃ a, xm_hd 49 3 x = some a ∧ Q (.inl (some (zI a.toInt))) M1 true 1)) : zT 49 (0, [some (zR 0 0), some (zR 31 0), none], [], M, true) Q := by
  refine zT.it 3 (t := (3, [some (zR 0 0), some (zR 31 0), none], [zR 0 0, zI 0, zR 31 0], M, true)) rfl ?_
  refine zT.callh (m := 48) (as := [zR 0 0]) (M := M) (L := [some (zR 0 0), some (zR 31 0), none]) (st := [zI 0, zR 31 0]) (pn := 6) (cl := true) rfl ?_
  refine zX.mono h (fun v M1 c h => ?_) (fun _ _ h => h)
  obtain ⟨r1, e1, h⟩ := h; subst e1; replace h := h (true && c)
  generalize (true && c) = cl1 at h ⊢
  show zT 49 (6, [some (zR 0 0), some (zR 31 0), none], [zI r1, zI 0, zR 31 0], M1, cl1) _
  refine zT.chk (p := zr r1) (t := (7, [some (zR 0 0), some (zR 31 0), none], [zJ r1, zI 0, zR 31 0], M1, cl1)) rfl h.1 ?_
  replace h := h.2
  refine zT.chk (t := (8, [some (zR 0 0), some (zR 31 0), none], [], (z_wl M1 31 0 0 r1), false)) rfl (by first | decide | (dsimp only; decide)) ?_
  refine zT.it 2 (t := (15, [some (zR 0 0), some (zR 31 0), none], [zI 0], (z_wl M1 31 0 0 r1), false)) rfl ?_
  exact zT.ret (v := some (zI 0)) rfl (by first | exact trivial | decide) h
theorem g50_0 {M : zM} {Q : zQ} (h : (zr (M.1 18 0 26)) ∧ ((¬ (M.1 18 0 26) = 0 → Q (.inl (some (zI 0))) (z_w M 18 0 1 1) false 0) ∧ ((M.1 18 0 26) = 0 → (zr (M.1 18 0 27)) ∧ (((M.1 18 0 27) = 0 → Q (.inl (some (zI 1))) (z_w M 18 0 1 0) false 0) ∧ (¬ ((M.1 18 0 27) = 0) → Q (.inl (some (zI 0))) (z_w M 18 0 1 1) false 0))))) : zT 50 (0, [some (zR 18 0)], [], M, true) Q := by
  refine zT.it 3 (t := (5, [some (zR 18 0)], [zI (M.1 18 0 26), zR 18 0], M, true)) rfl ?_
  refine zT.br (g := zr (M.1 18 0 26)) (p := ¬ (M.1 18 0 26) = 0) (t := (15, [some (zR 18 0)], [zR 18 0], M, true)) (u := (8, [some (zR 18 0)], [zR 18 0], M, true)) rfl h.1 (fun c => ?_) (fun c => ?_)
  · replace h := h.2.1 c
    refine zT.it 5 (t := (27, [some (zR 18 0)], [zI 1], (z_w M 18 0 1 1), false)) rfl ?_
    refine zT.br (g := zr 1) (p := ¬ 1 = 0) (t := (34, [some (zR 18 0)], [], (z_w M 18 0 1 1), false)) (u := (30, [some (zR 18 0)], [], (z_w M 18 0 1 1), false)) rfl (by decide) (fun c => ?_) (fun c => absurd (by decide) c)
    refine zT.it 1 (t := (35, [some (zR 18 0)], [zI 0], (z_w M 18 0 1 1), false)) rfl ?_
    exact zT.ret (v := some (zI 0)) rfl (by first | exact trivial | decide) h
  · replace h := h.2.2 (Decidable.not_not.1 c)
    refine zT.it 2 (t := (12, [some (zR 18 0)], [zI (M.1 18 0 27), zR 18 0], M, true)) rfl ?_
    refine zT.br (g := zr (M.1 18 0 27)) (p := (M.1 18 0 27) = 0) (t := (19, [some (zR 18 0)], [zR 18 0], M, true)) (u := (15, [some (zR 18 0)], [zR 18 0], M, true)) rfl h.1 (fun c => ?_) (fun c => ?_)
    · replace h := h.2.1 c
      refine zT.it 4 (t := (27, [some (zR 18 0)], [zI 0], (z_w M 18 0 1 0), false)) rfl ?_
      refine zT.br (g := zr 0) (p := ¬ 0 = 0) (t := (34, [some (zR 18 0)], [], (z_w M 18 0 1 0), false)) (u := (30, [some (zR 18 0)], [], (z_w M 18 0 1 0), false)) rfl (by decide) (fun c => absurd c (by decide)) (fun c => ?_)
      refine zT.it 2 (t := (35, [some (zR 18 0)], [zI 1], (z_w M 18 0 1 0), false)) rfl ?_
      exact zT.ret (v := some (zI 1)) rfl (by first | exact trivial | decide) h
    · replace h := h.2.2 c
      refine zT.it 5 (t := (27, [some (zR 18 0)], [zI 1], (z_w M 18 0 1 1), false)) rfl ?_
      refine zT.br (g := zr 1) (p := ¬ 1 = 0) (t := (34, [some (zR 18 0)], [], (z_w M 18 0 1 1), false)) (u := (30, [some (zR 18 0)], [], (z_w M 18 0 1 1), false)) rfl (by decide) (fun c => ?_) (fun c => absurd (by decide) c)
      refine zT.it 1 (t := (35, [some (zR 18 0)], [zI 0], (z_w M 18 0 1 1), false)) rfl ?_
      exact zT.ret (v := some (zI 0)) rfl (by first | exact trivial | decide) h
theorem g51_0 {a1 : Int} {M : zM} {Q : zQ} (h : (zr a1 ∧ zr (M.1 18 0 2)) ∧ (((M.1 18 0 2) ≤ a1 → Q (.inl (some (zI 0))) M true 0) ∧ (¬ ((M.1 18 0 2) ≤ a1) → (z_wi a1 80) ∧ ((0 ≤ (M.1 19 0 a1.toNat) ∧ (M.1 19 0 a1.toNat) ≤ 65535) ∧ Q (.inl (some (zI (M.1 19 0 a1.toNat)))) M true 0)))) : zT 51 (0, [some (zR 18 0), some (zI a1)], [], M, true) Q := by
  refine zT.it 3 (t := (5, [some (zR 18 0), some (zI a1)], [zI (M.1 18 0 2), zI a1], M, true)) rfl ?_
  refine zT.br (g := zr a1 ∧ zr (M.1 18 0 2)) (p := (M.1 18 0 2) ≤ a1) (t := (17, [some (zR 18 0), some (zI a1)], [], M, true)) (u := (8, [some (zR 18 0), some (zI a1)], [], M, true)) rfl h.1 (fun c => ?_) (fun c => ?_)
  · replace h := h.2.1 c
    refine zT.it 1 (t := (18, [some (zR 18 0), some (zI a1)], [zI 0], M, true)) rfl ?_
    exact zT.ret (v := some (zI 0)) rfl (by first | exact trivial | decide) h
  · replace h := h.2.2 c
    refine zT.it 3 (t := (13, [some (zR 18 0), some (zI a1)], [zI a1, zR 19 0], M, true)) rfl ?_
    refine zT.chk (p := z_wi a1 80) (t := (14, [some (zR 18 0), some (zI a1)], [zI (M.1 19 0 a1.toNat)], M, true)) rfl h.1 ?_
    replace h := h.2
    refine zT.it 1 (t := (18, [some (zR 18 0), some (zI a1)], [zI (M.1 19 0 a1.toNat)], M, true)) rfl ?_
    exact zT.ret (p := 0 ≤ (M.1 19 0 a1.toNat) ∧ (M.1 19 0 a1.toNat) ≤ 65535) (v := some (zI (M.1 19 0 a1.toNat))) rfl h.1 h.2
theorem g52_0 {M : zM} {cl : Bool} {Q : zQ} (h : zF 51 [zR 18 0, zI (M.1 18 0 7)] M (fun v M1 => ∃ r1 : Int, v = some (zI r1) ∧ ∀ cl1 : Bool, (zr r1 ∧ zr 32) ∧ ((¬ r1 = 32 → Q (.inl none) M1 cl1 0) ∧ (r1 = 32 → zT 52 (0, [some (zR 18 0)], [], (z_w M1 18 0 7 ((M1.1 18 0 7) + 1)), false) Q)))) : zT 52 (0, [some (zR 18 0)], [], M, cl) Q := by
  refine zT.it 3 (t := (5, [some (zR 18 0)], [zI (M.1 18 0 7), zR 18 0], M, cl)) rfl ?_
  refine zT.call (m := 51) (as := [zR 18 0, zI (M.1 18 0 7)]) (M := M) (L := [some (zR 18 0)]) (st := []) (pn := 8) (cl := cl) rfl ?_
  refine zF.mono h (fun v M1 h cl1 => ?_)
  obtain ⟨r1, e1, h⟩ := h; subst e1; replace h := h cl1
  show zT 52 (8, [some (zR 18 0)], [zI r1], M1, cl1) _
  refine zT.it 1 (t := (10, [some (zR 18 0)], [zI 32, zI r1], M1, cl1)) rfl ?_
  refine zT.br (g := zr r1 ∧ zr 32) (p := ¬ r1 = 32) (t := (26, [some (zR 18 0)], [], M1, cl1)) (u := (13, [some (zR 18 0)], [], M1, cl1)) rfl h.1 (fun c => ?_) (fun c => ?_)
  · replace h := h.2.1 c
    exact zT.ret (v := none) rfl trivial h
  · replace h := h.2.2 (Decidable.not_not.1 c)
    refine zT.it 7 (t := (0, [some (zR 18 0)], [], (z_w M1 18 0 7 ((M1.1 18 0 7) + 1)), false)) rfl ?_
    exact h
theorem g53_0 {a1 : Int} {M : zM} {Q : zQ} (h : zT 53 (4, [some (zR 18 0), some (zI a1), some (zI 0), some (zI 0)], [], M, true) Q) : zT 53 (0, [some (zR 18 0), some (zI a1), none, none], [], M, true) Q := by
  refine zT.it 4 (t := (4, [some (zR 18 0), some (zI a1), some (zI 0), some (zI 0)], [], M, true)) rfl ?_
  exact h
theorem g53_4 {x1 : Int} {x2 : Int} {x3 : Int} {M : zM} {cl : Bool} {Q : zQ} (h : zF 51 [zR 18 0, zI (M.1 18 0 7)] M (fun v M1 => ∃ r1 : Int, v = some (zI r1) ∧ ∀ cl1 : Bool, (zr r1 ∧ zr 48) ∧ ((r1 < 48 → (zr x3 ∧ zr 1) ∧ ((x3 < 1 → Q (.inl (some (zI (-1)))) M1 cl1 0) ∧ (¬ (x3 < 1) → (zr x3 ∧ zr x1) ∧ ((x3 ≤ x1 → Q (.inl (some (zI x2))) M1 cl1 0) ∧ (¬ (x3 ≤ x1) → Q (.inl (some (zI (-1)))) M1 cl1 0))))) ∧ (¬ (r1 < 48) → zF 51 [zR 18 0, zI (M1.1 18 0 7)] M1 (fun v M2 => ∃ r2 : Int, v = some (zI r2) ∧ ∀ cl2 : Bool, (zr r2 ∧ zr 57) ∧ ((57 < r2 → (zr x3 ∧ zr 1) ∧ ((x3 < 1 → Q (.inl (some (zI (-1)))) M2 cl2 0) ∧ (¬ (x3 < 1) → (zr x3 ∧ zr x1) ∧ ((x3 ≤ x1 → Q (.inl (some (zI x2))) M2 cl2 0) ∧ (¬ (x3 ≤ x1) → Q (.inl (some (zI (-1)))) M2 cl2 0))))) ∧ (¬ (57 < r2) → (zr x3 ∧ zr 6) ∧ ((6 ≤ x3 → zT 53 (4, [some (zR 18 0), some (zI x1), some (zI x2), some (zI (x3 + 1))], [], (z_w M2 18 0 7 ((M2.1 18 0 7) + 1)), false) Q) ∧ (¬ (6 ≤ x3) → zF 51 [zR 18 0, zI (M2.1 18 0 7)] M2 (fun v M3 => ∃ r3 : Int, v = some (zI r3) ∧ ∀ cl3 : Bool, zT 53 (4, [some (zR 18 0), some (zI x1), some (zI (((10 * x2) + r3) - 48)), some (zI (x3 + 1))], [], (z_w M3 18 0 7 ((M3.1 18 0 7) + 1)), false) Q)))))))))) : zT 53 (4, [some (zR 18 0), some (zI x1), some (zI x2), some (zI x3)], [], M, cl) Q := by
  refine zT.it 3 (t := (9, [some (zR 18 0), some (zI x1), some (zI x2), some (zI x3)], [zI (M.1 18 0 7), zR 18 0], M, cl)) rfl ?_
  refine zT.call (m := 51) (as := [zR 18 0, zI (M.1 18 0 7)]) (M := M) (L := [some (zR 18 0), some (zI x1), some (zI x2), some (zI x3)]) (st := []) (pn := 12) (cl := cl) rfl ?_
  refine zF.mono h (fun v M1 h cl1 => ?_)
  obtain ⟨r1, e1, h⟩ := h; subst e1; replace h := h cl1
  show zT 53 (12, [some (zR 18 0), some (zI x1), some (zI x2), some (zI x3)], [zI r1], M1, cl1) _
  refine zT.it 1 (t := (14, [some (zR 18 0), some (zI x1), some (zI x2), some (zI x3)], [zI 48, zI r1], M1, cl1)) rfl ?_
  refine zT.br (g := zr r1 ∧ zr 48) (p := r1 < 48) (t := (73, [some (zR 18 0), some (zI x1), some (zI x2), some (zI x3)], [], M1, cl1)) (u := (17, [some (zR 18 0), some (zI x1), some (zI x2), some (zI x3)], [], M1, cl1)) rfl h.1 (fun c => ?_) (fun c => ?_)
  · replace h := h.2.1 c
    refine zT.it 2 (t := (75, [some (zR 18 0), some (zI x1), some (zI x2), some (zI x3)], [zI 1, zI x3], M1, cl1)) rfl ?_
    refine zT.br (g := zr x3 ∧ zr 1) (p := x3 < 1) (t := (83, [some (zR 18 0), some (zI x1), some (zI x2), some (zI x3)], [], M1, cl1)) (u := (78, [some (zR 18 0), some (zI x1), some (zI x2), some (zI x3)], [], M1, cl1)) rfl h.1 (fun c => ?_) (fun c => ?_)
    · replace h := h.2.1 c
      refine zT.it 2 (t := (88, [some (zR 18 0), some (zI x1), some (zI x2), some (zI x3)], [zI (-1)], M1, cl1)) rfl ?_
      exact zT.ret (v := some (zI (-1))) rfl (by first | exact trivial | decide) h
    · replace h := h.2.2 c
      refine zT.it 2 (t := (80, [some (zR 18 0), some (zI x1), some (zI x2), some (zI x3)], [zI x1, zI x3], M1, cl1)) rfl ?_
      refine zT.br (g := zr x3 ∧ zr x1) (p := x3 ≤ x1) (t := (87, [some (zR 18 0), some (zI x1), some (zI x2), some (zI x3)], [], M1, cl1)) (u := (83, [some (zR 18 0), some (zI x1), some (zI x2), some (zI x3)], [], M1, cl1)) rfl h.1 (fun c => ?_) (fun c => ?_)
      · replace h := h.2.1 c
        refine zT.it 1 (t := (88, [some (zR 18 0), some (zI x1), some (zI x2), some (zI x3)], [zI x2], M1, cl1)) rfl ?_
        exact zT.ret (v := some (zI x2)) rfl (by first | exact trivial | decide) h
      · replace h := h.2.2 c
        refine zT.it 2 (t := (88, [some (zR 18 0), some (zI x1), some (zI x2), some (zI x3)], [zI (-1)], M1, cl1)) rfl ?_
        exact zT.ret (v := some (zI (-1))) rfl (by first | exact trivial | decide) h
  · replace h := h.2.2 c
    refine zT.it 3 (t := (22, [some (zR 18 0), some (zI x1), some (zI x2), some (zI x3)], [zI (M1.1 18 0 7), zR 18 0], M1, cl1)) rfl ?_
    refine zT.call (m := 51) (as := [zR 18 0, zI (M1.1 18 0 7)]) (M := M1) (L := [some (zR 18 0), some (zI x1), some (zI x2), some (zI x3)]) (st := []) (pn := 25) (cl := cl1) rfl ?_
    refine zF.mono h (fun v M2 h cl2 => ?_)
    obtain ⟨r2, e2, h⟩ := h; subst e2; replace h := h cl2
    show zT 53 (25, [some (zR 18 0), some (zI x1), some (zI x2), some (zI x3)], [zI r2], M2, cl2) _
    refine zT.it 1 (t := (27, [some (zR 18 0), some (zI x1), some (zI x2), some (zI x3)], [zI 57, zI r2], M2, cl2)) rfl ?_
    refine zT.br (g := zr r2 ∧ zr 57) (p := 57 < r2) (t := (73, [some (zR 18 0), some (zI x1), some (zI x2), some (zI x3)], [], M2, cl2)) (u := (30, [some (zR 18 0), some (zI x1), some (zI x2), some (zI x3)], [], M2, cl2)) rfl h.1 (fun c => ?_) (fun c => ?_)
    · replace h := h.2.1 c
      refine zT.it 2 (t := (75, [some (zR 18 0), some (zI x1), some (zI x2), some (zI x3)], [zI 1, zI x3], M2, cl2)) rfl ?_
      refine zT.br (g := zr x3 ∧ zr 1) (p := x3 < 1) (t := (83, [some (zR 18 0), some (zI x1), some (zI x2), some (zI x3)], [], M2, cl2)) (u := (78, [some (zR 18 0), some (zI x1), some (zI x2), some (zI x3)], [], M2, cl2)) rfl h.1 (fun c => ?_) (fun c => ?_)
      · replace h := h.2.1 c
        refine zT.it 2 (t := (88, [some (zR 18 0), some (zI x1), some (zI x2), some (zI x3)], [zI (-1)], M2, cl2)) rfl ?_
        exact zT.ret (v := some (zI (-1))) rfl (by first | exact trivial | decide) h
      · replace h := h.2.2 c
        refine zT.it 2 (t := (80, [some (zR 18 0), some (zI x1), some (zI x2), some (zI x3)], [zI x1, zI x3], M2, cl2)) rfl ?_
        refine zT.br (g := zr x3 ∧ zr x1) (p := x3 ≤ x1) (t := (87, [some (zR 18 0), some (zI x1), some (zI x2), some (zI x3)], [], M2, cl2)) (u := (83, [some (zR 18 0), some (zI x1), some (zI x2), some (zI x3)], [], M2, cl2)) rfl h.1 (fun c => ?_) (fun c => ?_)
        · replace h := h.2.1 c
          refine zT.it 1 (t := (88, [some (zR 18 0), some (zI x1), some (zI x2), some (zI x3)], [zI x2], M2, cl2)) rfl ?_
          exact zT.ret (v := some (zI x2)) rfl (by first | exact trivial | decide) h
        · replace h := h.2.2 c
          refine zT.it 2 (t := (88, [some (zR 18 0), some (zI x1), some (zI x2), some (zI x3)], [zI (-1)], M2, cl2)) rfl ?_
          exact zT.ret (v := some (zI (-1))) rfl (by first | exact trivial | decide) h
    · replace h := h.2.2 c
      refine zT.it 2 (t := (33, [some (zR 18 0), some (zI x1), some (zI x2), some (zI x3)], [zI 6, zI x3], M2, cl2)) rfl ?_
      refine zT.br (g := zr x3 ∧ zr 6) (p := 6 ≤ x3) (t := (55, [some (zR 18 0), some (zI x1), some (zI x2), some (zI x3)], [], M2, cl2)) (u := (36, [some (zR 18 0), some (zI x1), some (zI x2), some (zI x3)], [], M2, cl2)) rfl h.1 (fun c => ?_) (fun c => ?_)
      · replace h := h.2.1 c
        refine zT.it 10 (t := (4, [some (zR 18 0), some (zI x1), some (zI x2), some (zI (x3 + 1))], [], (z_w M2 18 0 7 ((M2.1 18 0 7) + 1)), false)) rfl ?_
        exact h
      · replace h := h.2.2 c
        refine zT.it 6 (t := (45, [some (zR 18 0), some (zI x1), some (zI x2), some (zI x3)], [zI (M2.1 18 0 7), zR 18 0, zI (10 * x2)], M2, cl2)) rfl ?_
        refine zT.call (m := 51) (as := [zR 18 0, zI (M2.1 18 0 7)]) (M := M2) (L := [some (zR 18 0), some (zI x1), some (zI x2), some (zI x3)]) (st := [zI (10 * x2)]) (pn := 48) (cl := cl2) rfl ?_
        refine zF.mono h (fun v M3 h cl3 => ?_)
        obtain ⟨r3, e3, h⟩ := h; subst e3; replace h := h cl3
        show zT 53 (48, [some (zR 18 0), some (zI x1), some (zI x2), some (zI x3)], [zI r3, zI (10 * x2)], M3, cl3) _
        refine zT.it 13 (t := (4, [some (zR 18 0), some (zI x1), some (zI (((10 * x2) + r3) - 48)), some (zI (x3 + 1))], [], (z_w M3 18 0 7 ((M3.1 18 0 7) + 1)), false)) rfl ?_
        exact h
theorem g54_0 {M : zM} {Q : zQ} (h : zF 52 [zR 18 0] (z_w (z_w M 18 0 7 0) 18 0 4 0) (fun v M1 => v = none ∧ ∀ cl1 : Bool, zT 54 (14, [some (zR 18 0), none, none], [], M1, cl1) Q)) : zT 54 (0, [some (zR 18 0), none, none], [], M, true) Q := by
  refine zT.it 7 (t := (11, [some (zR 18 0), none, none], [zR 18 0], (z_w (z_w M 18 0 7 0) 18 0 4 0), false)) rfl ?_
  refine zT.call (m := 52) (as := [zR 18 0]) (M := (z_w (z_w M 18 0 7 0) 18 0 4 0)) (L := [some (zR 18 0), none, none]) (st := []) (pn := 14) (cl := false) rfl ?_
  refine zF.mono h (fun v M1 h cl1 => ?_)
  obtain ⟨e1, h⟩ := h; subst e1; replace h := h cl1
  show zT 54 (14, [some (zR 18 0), none, none], [], M1, cl1) _
  exact h
theorem g54_14 {u1 : Option zV} {u2 : Option zV} {M : zM} {cl : Bool} {Q : zQ} (h : zF 51 [zR 18 0, zI (M.1 18 0 7)] M (fun v M2 => ∃ r2 : Int, v = some (zI r2) ∧ ∀ cl2 : Bool, (zr r2 ∧ zr 65) ∧ ((r2 < 65 → zT 54 (163, [some (zR 18 0), u1, u2], [], M2, cl2) Q) ∧ (¬ (r2 < 65) → zF 51 [zR 18 0, zI (M2.1 18 0 7)] M2 (fun v M3 => ∃ r3 : Int, v = some (zI r3) ∧ ∀ cl3 : Bool, (zr r3 ∧ zr 90) ∧ ((90 < r3 → zT 54 (163, [some (zR 18 0), u1, u2], [], M3, cl3) Q) ∧ (¬ (90 < r3) → zF 51 [zR 18 0, zI (M3.1 18 0 7)] M3 (fun v M4 => ∃ r4 : Int, v = some (zI r4) ∧ ∀ cl4 : Bool, (z_wi (M3.1 18 0 4) 48 ∧ 0 ≤ r4 ∧ r4 ≤ 65535) ∧ (zF 51 [zR 18 0, zI ((M4.1 18 0 7) + 1)] (z_w (z_w M4 20 0 ((M3.1 18 0 4).toNat) r4) 18 0 7 ((M4.1 18 0 7) + 1)) (fun v M5 => ∃ r5 : Int, v = some (zI r5) ∧ ∀ cl5 : Bool, (zr r5 ∧ zr 45) ∧ ((¬ r5 = 45 → zF 53 [zR 18 0, zI 5] (z_w M5 18 0 7 ((M5.1 18 0 7) + 0)) (fun v M6 => ∃ r6 : Int, v = some (zI r6) ∧ ∀ cl6 : Bool, (zr r6) ∧ ((r6 < 0 → Q (.inl (some (zI 0))) M6 cl6 0) ∧ (¬ (r6 < 0) → (z_wi (M6.1 18 0 4) 48) ∧ (zF 52 [zR 18 0] (z_w (z_w M6 21 0 ((M6.1 18 0 4).toNat) r6) 18 0 4 ((M6.1 18 0 4) + 1)) (fun v M7 => v = none ∧ ∀ cl7 : Bool, zT 54 (14, [some (zR 18 0), some (zI 0), some (zI r6)], [], M7, cl7) Q)))))) ∧ (r5 = 45 → zF 53 [zR 18 0, zI 5] (z_w M5 18 0 7 ((M5.1 18 0 7) + 1)) (fun v M8 => ∃ r8 : Int, v = some (zI r8) ∧ ∀ cl8 : Bool, (zr r8) ∧ ((r8 < 0 → Q (.inl (some (zI 0))) M8 cl8 0) ∧ (¬ (r8 < 0) → (zr (M8.1 18 0 4)) ∧ ((¬ (M8.1 18 0 4) = 0 → (z_wi (M8.1 18 0 4) 48) ∧ (zF 52 [zR 18 0] (z_w (z_w M8 21 0 ((M8.1 18 0 4).toNat) (-r8)) 18 0 4 ((M8.1 18 0 4) + 1)) (fun v M9 => v = none ∧ ∀ cl9 : Bool, zT 54 (14, [some (zR 18 0), some (zI 1), some (zI r8)], [], M9, cl9) Q))) ∧ ((M8.1 18 0 4) = 0 → Q (.inl (some (zI 0))) M8 cl8 0))))))))))))))))) : zT 54 (14, [some (zR 18 0), u1, u2], [], M, cl) Q := by
  refine zT.it 3 (t := (19, [some (zR 18 0), u1, u2], [zI (M.1 18 0 7), zR 18 0], M, cl)) rfl ?_
  refine zT.call (m := 51) (as := [zR 18 0, zI (M.1 18 0 7)]) (M := M) (L := [some (zR 18 0), u1, u2]) (st := []) (pn := 22) (cl := cl) rfl ?_
  refine zF.mono h (fun v M2 h cl2 => ?_)
  obtain ⟨r2, e2, h⟩ := h; subst e2; replace h := h cl2
  show zT 54 (22, [some (zR 18 0), u1, u2], [zI r2], M2, cl2) _
  refine zT.it 1 (t := (24, [some (zR 18 0), u1, u2], [zI 65, zI r2], M2, cl2)) rfl ?_
  refine zT.br (g := zr r2 ∧ zr 65) (p := r2 < 65) (t := (163, [some (zR 18 0), u1, u2], [], M2, cl2)) (u := (27, [some (zR 18 0), u1, u2], [], M2, cl2)) rfl h.1 (fun c => ?_) (fun c => ?_)
  · replace h := h.2.1 c
    exact h
  · replace h := h.2.2 c
    refine zT.it 3 (t := (32, [some (zR 18 0), u1, u2], [zI (M2.1 18 0 7), zR 18 0], M2, cl2)) rfl ?_
    refine zT.call (m := 51) (as := [zR 18 0, zI (M2.1 18 0 7)]) (M := M2) (L := [some (zR 18 0), u1, u2]) (st := []) (pn := 35) (cl := cl2) rfl ?_
    refine zF.mono h (fun v M3 h cl3 => ?_)
    obtain ⟨r3, e3, h⟩ := h; subst e3; replace h := h cl3
    show zT 54 (35, [some (zR 18 0), u1, u2], [zI r3], M3, cl3) _
    refine zT.it 1 (t := (37, [some (zR 18 0), u1, u2], [zI 90, zI r3], M3, cl3)) rfl ?_
    refine zT.br (g := zr r3 ∧ zr 90) (p := 90 < r3) (t := (163, [some (zR 18 0), u1, u2], [], M3, cl3)) (u := (40, [some (zR 18 0), u1, u2], [], M3, cl3)) rfl h.1 (fun c => ?_) (fun c => ?_)
    · replace h := h.2.1 c
      exact h
    · replace h := h.2.2 c
      refine zT.it 7 (t := (53, [some (zR 18 0), u1, u2], [zI (M3.1 18 0 7), zR 18 0, zI (M3.1 18 0 4), zR 20 0], M3, cl3)) rfl ?_
      refine zT.call (m := 51) (as := [zR 18 0, zI (M3.1 18 0 7)]) (M := M3) (L := [some (zR 18 0), u1, u2]) (st := [zI (M3.1 18 0 4), zR 20 0]) (pn := 56) (cl := cl3) rfl ?_
      refine zF.mono h (fun v M4 h cl4 => ?_)
      obtain ⟨r4, e4, h⟩ := h; subst e4; replace h := h cl4
      show zT 54 (56, [some (zR 18 0), u1, u2], [zI r4, zI (M3.1 18 0 4), zR 20 0], M4, cl4) _
      refine zT.chk (p := z_wi (M3.1 18 0 4) 48 ∧ 0 ≤ r4 ∧ r4 ≤ 65535) (t := (57, [some (zR 18 0), u1, u2], [], (z_w M4 20 0 ((M3.1 18 0 4).toNat) r4), false)) rfl h.1 ?_
      replace h := h.2
      refine zT.it 9 (t := (72, [some (zR 18 0), u1, u2], [zI ((M4.1 18 0 7) + 1), zR 18 0], (z_w (z_w M4 20 0 ((M3.1 18 0 4).toNat) r4) 18 0 7 ((M4.1 18 0 7) + 1)), false)) rfl ?_
      refine zT.call (m := 51) (as := [zR 18 0, zI ((M4.1 18 0 7) + 1)]) (M := (z_w (z_w M4 20 0 ((M3.1 18 0 4).toNat) r4) 18 0 7 ((M4.1 18 0 7) + 1))) (L := [some (zR 18 0), u1, u2]) (st := []) (pn := 75) (cl := false) rfl ?_
      refine zF.mono h (fun v M5 h cl5 => ?_)
      obtain ⟨r5, e5, h⟩ := h; subst e5; replace h := h cl5
      show zT 54 (75, [some (zR 18 0), u1, u2], [zI r5], M5, cl5) _
      refine zT.it 1 (t := (77, [some (zR 18 0), u1, u2], [zI 45, zI r5], M5, cl5)) rfl ?_
      refine zT.br (g := zr r5 ∧ zr 45) (p := ¬ r5 = 45) (t := (84, [some (zR 18 0), u1, u2], [], M5, cl5)) (u := (80, [some (zR 18 0), u1, u2], [], M5, cl5)) rfl h.1 (fun c => ?_) (fun c => ?_)
      · replace h := h.2.1 c
        refine zT.it 6 (t := (92, [some (zR 18 0), some (zI 0), u2], [zI 0, zI (M5.1 18 0 7), zR 18 0], M5, cl5)) rfl ?_
        refine zT.br (g := zr 0) (p := 0 = 0) (t := (99, [some (zR 18 0), some (zI 0), u2], [zI (M5.1 18 0 7), zR 18 0], M5, cl5)) (u := (95, [some (zR 18 0), some (zI 0), u2], [zI (M5.1 18 0 7), zR 18 0], M5, cl5)) rfl (by decide) (fun c => ?_) (fun c => absurd (by decide) c)
        refine zT.it 5 (t := (106, [some (zR 18 0), some (zI 0), u2], [zI 5, zR 18 0], (z_w M5 18 0 7 ((M5.1 18 0 7) + 0)), false)) rfl ?_
        refine zT.call (m := 53) (as := [zR 18 0, zI 5]) (M := (z_w M5 18 0 7 ((M5.1 18 0 7) + 0))) (L := [some (zR 18 0), some (zI 0), u2]) (st := []) (pn := 109) (cl := false) rfl ?_
        refine zF.mono h (fun v M6 h cl6 => ?_)
        obtain ⟨r6, e6, h⟩ := h; subst e6; replace h := h cl6
        show zT 54 (109, [some (zR 18 0), some (zI 0), u2], [zI r6], M6, cl6) _
        refine zT.it 2 (t := (111, [some (zR 18 0), some (zI 0), some (zI r6)], [zI r6], M6, cl6)) rfl ?_
        refine zT.br (g := zr r6) (p := r6 < 0) (t := (125, [some (zR 18 0), some (zI 0), some (zI r6)], [], M6, cl6)) (u := (114, [some (zR 18 0), some (zI 0), some (zI r6)], [], M6, cl6)) rfl h.1 (fun c => ?_) (fun c => ?_)
        · replace h := h.2.1 c
          refine zT.it 1 (t := (126, [some (zR 18 0), some (zI 0), some (zI r6)], [zI 0], M6, cl6)) rfl ?_
          exact zT.ret (v := some (zI 0)) rfl (by first | exact trivial | decide) h
        · replace h := h.2.2 c
          refine zT.it 1 (t := (115, [some (zR 18 0), some (zI 0), some (zI r6)], [zI 0], M6, cl6)) rfl ?_
          refine zT.br (g := zr 0) (p := 0 = 0) (t := (127, [some (zR 18 0), some (zI 0), some (zI r6)], [], M6, cl6)) (u := (118, [some (zR 18 0), some (zI 0), some (zI r6)], [], M6, cl6)) rfl (by decide) (fun c => ?_) (fun c => absurd (by decide) c)
          refine zT.it 5 (t := (136, [some (zR 18 0), some (zI 0), some (zI r6)], [zI 0, zI (M6.1 18 0 4), zR 21 0], M6, cl6)) rfl ?_
          refine zT.br (g := zr 0) (p := 0 = 0) (t := (144, [some (zR 18 0), some (zI 0), some (zI r6)], [zI (M6.1 18 0 4), zR 21 0], M6, cl6)) (u := (139, [some (zR 18 0), some (zI 0), some (zI r6)], [zI (M6.1 18 0 4), zR 21 0], M6, cl6)) rfl (by decide) (fun c => ?_) (fun c => absurd (by decide) c)
          refine zT.it 1 (t := (145, [some (zR 18 0), some (zI 0), some (zI r6)], [zI r6, zI (M6.1 18 0 4), zR 21 0], M6, cl6)) rfl ?_
          refine zT.chk (p := z_wi (M6.1 18 0 4) 48) (t := (146, [some (zR 18 0), some (zI 0), some (zI r6)], [], (z_w M6 21 0 ((M6.1 18 0 4).toNat) r6), false)) rfl h.1 ?_
          replace h := h.2
          refine zT.it 7 (t := (157, [some (zR 18 0), some (zI 0), some (zI r6)], [zR 18 0], (z_w (z_w M6 21 0 ((M6.1 18 0 4).toNat) r6) 18 0 4 ((M6.1 18 0 4) + 1)), false)) rfl ?_
          refine zT.call (m := 52) (as := [zR 18 0]) (M := (z_w (z_w M6 21 0 ((M6.1 18 0 4).toNat) r6) 18 0 4 ((M6.1 18 0 4) + 1))) (L := [some (zR 18 0), some (zI 0), some (zI r6)]) (st := []) (pn := 160) (cl := false) rfl ?_
          refine zF.mono h (fun v M7 h cl7 => ?_)
          obtain ⟨e7, h⟩ := h; subst e7; replace h := h cl7
          show zT 54 (160, [some (zR 18 0), some (zI 0), some (zI r6)], [], M7, cl7) _
          refine zT.it 1 (t := (14, [some (zR 18 0), some (zI 0), some (zI r6)], [], M7, cl7)) rfl ?_
          exact h
      · replace h := h.2.2 (Decidable.not_not.1 c)
        refine zT.it 7 (t := (92, [some (zR 18 0), some (zI 1), u2], [zI 1, zI (M5.1 18 0 7), zR 18 0], M5, cl5)) rfl ?_
        refine zT.br (g := zr 1) (p := 1 = 0) (t := (99, [some (zR 18 0), some (zI 1), u2], [zI (M5.1 18 0 7), zR 18 0], M5, cl5)) (u := (95, [some (zR 18 0), some (zI 1), u2], [zI (M5.1 18 0 7), zR 18 0], M5, cl5)) rfl (by decide) (fun c => absurd c (by decide)) (fun c => ?_)
        refine zT.it 6 (t := (106, [some (zR 18 0), some (zI 1), u2], [zI 5, zR 18 0], (z_w M5 18 0 7 ((M5.1 18 0 7) + 1)), false)) rfl ?_
        refine zT.call (m := 53) (as := [zR 18 0, zI 5]) (M := (z_w M5 18 0 7 ((M5.1 18 0 7) + 1))) (L := [some (zR 18 0), some (zI 1), u2]) (st := []) (pn := 109) (cl := false) rfl ?_
        refine zF.mono h (fun v M8 h cl8 => ?_)
        obtain ⟨r8, e8, h⟩ := h; subst e8; replace h := h cl8
        show zT 54 (109, [some (zR 18 0), some (zI 1), u2], [zI r8], M8, cl8) _
        refine zT.it 2 (t := (111, [some (zR 18 0), some (zI 1), some (zI r8)], [zI r8], M8, cl8)) rfl ?_
        refine zT.br (g := zr r8) (p := r8 < 0) (t := (125, [some (zR 18 0), some (zI 1), some (zI r8)], [], M8, cl8)) (u := (114, [some (zR 18 0), some (zI 1), some (zI r8)], [], M8, cl8)) rfl h.1 (fun c => ?_) (fun c => ?_)
        · replace h := h.2.1 c
          refine zT.it 1 (t := (126, [some (zR 18 0), some (zI 1), some (zI r8)], [zI 0], M8, cl8)) rfl ?_
          exact zT.ret (v := some (zI 0)) rfl (by first | exact trivial | decide) h
        · replace h := h.2.2 c
          refine zT.it 1 (t := (115, [some (zR 18 0), some (zI 1), some (zI r8)], [zI 1], M8, cl8)) rfl ?_
          refine zT.br (g := zr 1) (p := 1 = 0) (t := (127, [some (zR 18 0), some (zI 1), some (zI r8)], [], M8, cl8)) (u := (118, [some (zR 18 0), some (zI 1), some (zI r8)], [], M8, cl8)) rfl (by decide) (fun c => absurd c (by decide)) (fun c => ?_)
          refine zT.it 2 (t := (122, [some (zR 18 0), some (zI 1), some (zI r8)], [zI (M8.1 18 0 4)], M8, cl8)) rfl ?_
          refine zT.br (g := zr (M8.1 18 0 4)) (p := ¬ (M8.1 18 0 4) = 0) (t := (127, [some (zR 18 0), some (zI 1), some (zI r8)], [], M8, cl8)) (u := (125, [some (zR 18 0), some (zI 1), some (zI r8)], [], M8, cl8)) rfl h.1 (fun c => ?_) (fun c => ?_)
          · replace h := h.2.1 c
            refine zT.it 5 (t := (136, [some (zR 18 0), some (zI 1), some (zI r8)], [zI 1, zI (M8.1 18 0 4), zR 21 0], M8, cl8)) rfl ?_
            refine zT.br (g := zr 1) (p := 1 = 0) (t := (144, [some (zR 18 0), some (zI 1), some (zI r8)], [zI (M8.1 18 0 4), zR 21 0], M8, cl8)) (u := (139, [some (zR 18 0), some (zI 1), some (zI r8)], [zI (M8.1 18 0 4), zR 21 0], M8, cl8)) rfl (by decide) (fun c => absurd c (by decide)) (fun c => ?_)
            refine zT.it 3 (t := (145, [some (zR 18 0), some (zI 1), some (zI r8)], [zI (-r8), zI (M8.1 18 0 4), zR 21 0], M8, cl8)) rfl ?_
            refine zT.chk (p := z_wi (M8.1 18 0 4) 48) (t := (146, [some (zR 18 0), some (zI 1), some (zI r8)], [], (z_w M8 21 0 ((M8.1 18 0 4).toNat) (-r8)), false)) rfl h.1 ?_
            replace h := h.2
            refine zT.it 7 (t := (157, [some (zR 18 0), some (zI 1), some (zI r8)], [zR 18 0], (z_w (z_w M8 21 0 ((M8.1 18 0 4).toNat) (-r8)) 18 0 4 ((M8.1 18 0 4) + 1)), false)) rfl ?_
            refine zT.call (m := 52) (as := [zR 18 0]) (M := (z_w (z_w M8 21 0 ((M8.1 18 0 4).toNat) (-r8)) 18 0 4 ((M8.1 18 0 4) + 1))) (L := [some (zR 18 0), some (zI 1), some (zI r8)]) (st := []) (pn := 160) (cl := false) rfl ?_
            refine zF.mono h (fun v M9 h cl9 => ?_)
            obtain ⟨e9, h⟩ := h; subst e9; replace h := h cl9
            show zT 54 (160, [some (zR 18 0), some (zI 1), some (zI r8)], [], M9, cl9) _
            refine zT.it 1 (t := (14, [some (zR 18 0), some (zI 1), some (zI r8)], [], M9, cl9)) rfl ?_
            exact h
          · replace h := h.2.2 (Decidable.not_not.1 c)
            refine zT.it 1 (t := (126, [some (zR 18 0), some (zI 1), some (zI r8)], [zI 0], M8, cl8)) rfl ?_
            exact zT.ret (v := some (zI 0)) rfl (by first | exact trivial | decide) h
theorem g54_163 {u1 : Option zV} {u2 : Option zV} {M : zM} {cl : Bool} {Q : zQ} (h : zF 51 [zR 18 0, zI (M.1 18 0 7)] M (fun v M10 => ∃ r10 : Int, v = some (zI r10) ∧ ∀ cl10 : Bool, (zr r10 ∧ zr 42) ∧ ((¬ r10 = 42 → Q (.inl (some (zI 0))) M10 cl10 0) ∧ (r10 = 42 → (zr (M10.1 18 0 4)) ∧ (((M10.1 18 0 4) = 0 → Q (.inl (some (zI 0))) M10 cl10 0) ∧ (¬ ((M10.1 18 0 4) = 0) → (zr (M10.1 20 0 0) ∧ zr 78) ∧ (((M10.1 20 0 0) = 78 → zT 54 (200, [some (zR 18 0), some (zI 0), some (zI 0)], [], M10, cl10) Q) ∧ (¬ ((M10.1 20 0 0) = 78) → Q (.inl (some (zI 0))) M10 cl10 0)))))))) : zT 54 (163, [some (zR 18 0), u1, u2], [], M, cl) Q := by
  refine zT.it 3 (t := (168, [some (zR 18 0), u1, u2], [zI (M.1 18 0 7), zR 18 0], M, cl)) rfl ?_
  refine zT.call (m := 51) (as := [zR 18 0, zI (M.1 18 0 7)]) (M := M) (L := [some (zR 18 0), u1, u2]) (st := []) (pn := 171) (cl := cl) rfl ?_
  refine zF.mono h (fun v M10 h cl10 => ?_)
  obtain ⟨r10, e10, h⟩ := h; subst e10; replace h := h cl10
  show zT 54 (171, [some (zR 18 0), u1, u2], [zI r10], M10, cl10) _
  refine zT.it 1 (t := (173, [some (zR 18 0), u1, u2], [zI 42, zI r10], M10, cl10)) rfl ?_
  refine zT.br (g := zr r10 ∧ zr 42) (p := ¬ r10 = 42) (t := (194, [some (zR 18 0), u1, u2], [], M10, cl10)) (u := (176, [some (zR 18 0), u1, u2], [], M10, cl10)) rfl h.1 (fun c => ?_) (fun c => ?_)
  · replace h := h.2.1 c
    refine zT.it 1 (t := (195, [some (zR 18 0), u1, u2], [zI 0], M10, cl10)) rfl ?_
    exact zT.ret (v := some (zI 0)) rfl (by first | exact trivial | decide) h
  · replace h := h.2.2 (Decidable.not_not.1 c)
    refine zT.it 2 (t := (180, [some (zR 18 0), u1, u2], [zI (M10.1 18 0 4)], M10, cl10)) rfl ?_
    refine zT.br (g := zr (M10.1 18 0 4)) (p := (M10.1 18 0 4) = 0) (t := (194, [some (zR 18 0), u1, u2], [], M10, cl10)) (u := (183, [some (zR 18 0), u1, u2], [], M10, cl10)) rfl h.1 (fun c => ?_) (fun c => ?_)
    · replace h := h.2.1 c
      refine zT.it 1 (t := (195, [some (zR 18 0), u1, u2], [zI 0], M10, cl10)) rfl ?_
      exact zT.ret (v := some (zI 0)) rfl (by first | exact trivial | decide) h
    · replace h := h.2.2 c
      refine zT.it 3 (t := (188, [some (zR 18 0), u1, u2], [zI 0, zR 20 0], M10, cl10)) rfl ?_
      refine zT.chk (t := (189, [some (zR 18 0), u1, u2], [zI (M10.1 20 0 0)], M10, cl10)) rfl (by first | decide | (dsimp only; decide)) ?_
      refine zT.it 1 (t := (191, [some (zR 18 0), u1, u2], [zI 78, zI (M10.1 20 0 0)], M10, cl10)) rfl ?_
      refine zT.br (g := zr (M10.1 20 0 0) ∧ zr 78) (p := (M10.1 20 0 0) = 78) (t := (196, [some (zR 18 0), u1, u2], [], M10, cl10)) (u := (194, [some (zR 18 0), u1, u2], [], M10, cl10)) rfl h.1 (fun c => ?_) (fun c => ?_)
      · replace h := h.2.1 c
        refine zT.it 4 (t := (200, [some (zR 18 0), some (zI 0), some (zI 0)], [], M10, cl10)) rfl ?_
        exact h
      · replace h := h.2.2 c
        refine zT.it 1 (t := (195, [some (zR 18 0), u1, u2], [zI 0], M10, cl10)) rfl ?_
        exact zT.ret (v := some (zI 0)) rfl (by first | exact trivial | decide) h
theorem g54_200 {x1 : Int} {x2 : Int} {M : zM} {cl : Bool} {Q : zQ} (h : (zr x2 ∧ zr (M.1 18 0 7)) ∧ (((M.1 18 0 7) ≤ x2 → zF 53 [zR 18 0, zI 3] (z_w M 18 0 7 ((M.1 18 0 7) + 1)) (fun v M11 => ∃ r11 : Int, v = some (zI r11) ∧ ∀ cl11 : Bool, zF 52 [zR 18 0] M11 (fun v M12 => v = none ∧ ∀ cl12 : Bool, (zr r11 ∧ zr x1) ∧ ((¬ r11 = x1 → Q (.inl (some (zI 0))) M12 cl12 0) ∧ (r11 = x1 → (zr (M12.1 18 0 7) ∧ zr (M12.1 18 0 2)) ∧ ((¬ (M12.1 18 0 7) = (M12.1 18 0 2) → Q (.inl (some (zI 0))) M12 cl12 0) ∧ ((M12.1 18 0 7) = (M12.1 18 0 2) → Q (.inl (some (zI 1))) M12 cl12 0))))))) ∧ (¬ ((M.1 18 0 7) ≤ x2) → (z_wi x2 80) ∧ ((z_p x1 ∧ z_p (M.1 19 0 x2.toNat)) ∧ (zT 54 (200, [some (zR 18 0), some (zI (Int.ofNat (Int.toNat x1 ^^^ Int.toNat (M.1 19 0 x2.toNat)))), some (zI (x2 + 1))], [], M, cl) Q))))) : zT 54 (200, [some (zR 18 0), some (zI x1), some (zI x2)], [], M, cl) Q := by
  refine zT.it 3 (t := (205, [some (zR 18 0), some (zI x1), some (zI x2)], [zI (M.1 18 0 7), zI x2], M, cl)) rfl ?_
  refine zT.br (g := zr x2 ∧ zr (M.1 18 0 7)) (p := (M.1 18 0 7) ≤ x2) (t := (223, [some (zR 18 0), some (zI x1), some (zI x2)], [], M, cl)) (u := (208, [some (zR 18 0), some (zI x1), some (zI x2)], [], M, cl)) rfl h.1 (fun c => ?_) (fun c => ?_)
  · replace h := h.2.1 c
    refine zT.it 8 (t := (235, [some (zR 18 0), some (zI x1), some (zI x2)], [zI 3, zR 18 0], (z_w M 18 0 7 ((M.1 18 0 7) + 1)), false)) rfl ?_
    refine zT.call (m := 53) (as := [zR 18 0, zI 3]) (M := (z_w M 18 0 7 ((M.1 18 0 7) + 1))) (L := [some (zR 18 0), some (zI x1), some (zI x2)]) (st := []) (pn := 238) (cl := false) rfl ?_
    refine zF.mono h (fun v M11 h cl11 => ?_)
    obtain ⟨r11, e11, h⟩ := h; subst e11; replace h := h cl11
    show zT 54 (238, [some (zR 18 0), some (zI x1), some (zI x2)], [zI r11], M11, cl11) _
    refine zT.it 2 (t := (240, [some (zR 18 0), some (zI x1), some (zI r11)], [zR 18 0], M11, cl11)) rfl ?_
    refine zT.call (m := 52) (as := [zR 18 0]) (M := M11) (L := [some (zR 18 0), some (zI x1), some (zI r11)]) (st := []) (pn := 243) (cl := cl11) rfl ?_
    refine zF.mono h (fun v M12 h cl12 => ?_)
    obtain ⟨e12, h⟩ := h; subst e12; replace h := h cl12
    show zT 54 (243, [some (zR 18 0), some (zI x1), some (zI r11)], [], M12, cl12) _
    refine zT.it 2 (t := (245, [some (zR 18 0), some (zI x1), some (zI r11)], [zI x1, zI r11], M12, cl12)) rfl ?_
    refine zT.br (g := zr r11 ∧ zr x1) (p := ¬ r11 = x1) (t := (263, [some (zR 18 0), some (zI x1), some (zI r11)], [], M12, cl12)) (u := (248, [some (zR 18 0), some (zI x1), some (zI r11)], [], M12, cl12)) rfl h.1 (fun c => ?_) (fun c => ?_)
    · replace h := h.2.1 c
      refine zT.it 1 (t := (264, [some (zR 18 0), some (zI x1), some (zI r11)], [zI 0], M12, cl12)) rfl ?_
      exact zT.ret (v := some (zI 0)) rfl (by first | exact trivial | decide) h
    · replace h := h.2.2 (Decidable.not_not.1 c)
      refine zT.it 4 (t := (256, [some (zR 18 0), some (zI x1), some (zI r11)], [zI (M12.1 18 0 2), zI (M12.1 18 0 7)], M12, cl12)) rfl ?_
      refine zT.br (g := zr (M12.1 18 0 7) ∧ zr (M12.1 18 0 2)) (p := ¬ (M12.1 18 0 7) = (M12.1 18 0 2)) (t := (263, [some (zR 18 0), some (zI x1), some (zI r11)], [], M12, cl12)) (u := (259, [some (zR 18 0), some (zI x1), some (zI r11)], [], M12, cl12)) rfl h.1 (fun c => ?_) (fun c => ?_)
      · replace h := h.2.1 c
        refine zT.it 1 (t := (264, [some (zR 18 0), some (zI x1), some (zI r11)], [zI 0], M12, cl12)) rfl ?_
        exact zT.ret (v := some (zI 0)) rfl (by first | exact trivial | decide) h
      · replace h := h.2.2 (Decidable.not_not.1 c)
        refine zT.it 2 (t := (264, [some (zR 18 0), some (zI x1), some (zI r11)], [zI 1], M12, cl12)) rfl ?_
        exact zT.ret (v := some (zI 1)) rfl (by first | exact trivial | decide) h
  · replace h := h.2.2 c
    refine zT.it 4 (t := (214, [some (zR 18 0), some (zI x1), some (zI x2)], [zI x2, zR 19 0, zI x1], M, cl)) rfl ?_
    refine zT.chk (p := z_wi x2 80) (t := (215, [some (zR 18 0), some (zI x1), some (zI x2)], [zI (M.1 19 0 x2.toNat), zI x1], M, cl)) rfl h.1 ?_
    replace h := h.2
    refine zT.chk (p := z_p x1 ∧ z_p (M.1 19 0 x2.toNat)) (t := (216, [some (zR 18 0), some (zI x1), some (zI x2)], [zI (Int.ofNat (Int.toNat x1 ^^^ Int.toNat (M.1 19 0 x2.toNat)))], M, cl)) rfl h.1 ?_
    replace h := h.2
    refine zT.it 3 (t := (200, [some (zR 18 0), some (zI (Int.ofNat (Int.toNat x1 ^^^ Int.toNat (M.1 19 0 x2.toNat)))), some (zI (x2 + 1))], [], M, cl)) rfl ?_
    exact h
theorem g55_0 {a1 : Int} {M : zM} {Q : zQ} (h : zT 55 (4, [some (zR 18 0), some (zI a1), some (zI 0), some (zI 2)], [], M, true) Q) : zT 55 (0, [some (zR 18 0), some (zI a1), none, none], [], M, true) Q := by
  refine zT.it 4 (t := (4, [some (zR 18 0), some (zI a1), some (zI 0), some (zI 2)], [], M, true)) rfl ?_
  exact h
theorem g55_4 {x1 : Int} {x2 : Int} {x3 : Int} {M : zM} {cl : Bool} {Q : zQ} (h : (zr x3 ∧ zr (M.1 18 0 4)) ∧ (((M.1 18 0 4) ≤ x3 → Q (.inl (some (zI x2))) M cl 0) ∧ (¬ ((M.1 18 0 4) ≤ x3) → (z_wi x3 48) ∧ ((zr (M.1 20 0 x3.toNat) ∧ zr x1) ∧ ((¬ (M.1 20 0 x3.toNat) = x1 → zT 55 (4, [some (zR 18 0), some (zI x1), some (zI (x2 + 0)), some (zI (x3 + 1))], [], M, cl) Q) ∧ ((M.1 20 0 x3.toNat) = x1 → zT 55 (4, [some (zR 18 0), some (zI x1), some (zI (x2 + 1)), some (zI (x3 + 1))], [], M, cl) Q)))))) : zT 55 (4, [some (zR 18 0), some (zI x1), some (zI x2), some (zI x3)], [], M, cl) Q := by
  refine zT.it 3 (t := (9, [some (zR 18 0), some (zI x1), some (zI x2), some (zI x3)], [zI (M.1 18 0 4), zI x3], M, cl)) rfl ?_
  refine zT.br (g := zr x3 ∧ zr (M.1 18 0 4)) (p := (M.1 18 0 4) ≤ x3) (t := (36, [some (zR 18 0), some (zI x1), some (zI x2), some (zI x3)], [], M, cl)) (u := (12, [some (zR 18 0), some (zI x1), some (zI x2), some (zI x3)], [], M, cl)) rfl h.1 (fun c => ?_) (fun c => ?_)
  · replace h := h.2.1 c
    refine zT.it 1 (t := (37, [some (zR 18 0), some (zI x1), some (zI x2), some (zI x3)], [zI x2], M, cl)) rfl ?_
    exact zT.ret (v := some (zI x2)) rfl (by first | exact trivial | decide) h
  · replace h := h.2.2 c
    refine zT.it 4 (t := (18, [some (zR 18 0), some (zI x1), some (zI x2), some (zI x3)], [zI x3, zR 20 0, zI x2], M, cl)) rfl ?_
    refine zT.chk (p := z_wi x3 48) (t := (19, [some (zR 18 0), some (zI x1), some (zI x2), some (zI x3)], [zI (M.1 20 0 x3.toNat), zI x2], M, cl)) rfl h.1 ?_
    replace h := h.2
    refine zT.it 1 (t := (20, [some (zR 18 0), some (zI x1), some (zI x2), some (zI x3)], [zI x1, zI (M.1 20 0 x3.toNat), zI x2], M, cl)) rfl ?_
    refine zT.br (g := zr (M.1 20 0 x3.toNat) ∧ zr x1) (p := ¬ (M.1 20 0 x3.toNat) = x1) (t := (27, [some (zR 18 0), some (zI x1), some (zI x2), some (zI x3)], [zI x2], M, cl)) (u := (23, [some (zR 18 0), some (zI x1), some (zI x2), some (zI x3)], [zI x2], M, cl)) rfl h.1 (fun c => ?_) (fun c => ?_)
    · replace h := h.2.1 c
      refine zT.it 5 (t := (4, [some (zR 18 0), some (zI x1), some (zI (x2 + 0)), some (zI (x3 + 1))], [], M, cl)) rfl ?_
      exact h
    · replace h := h.2.2 (Decidable.not_not.1 c)
      refine zT.it 6 (t := (4, [some (zR 18 0), some (zI x1), some (zI (x2 + 1)), some (zI (x3 + 1))], [], M, cl)) rfl ?_
      exact h
theorem g56_0 {a1 : Int} {a2 : Int} {M : zM} {Q : zQ} (h : zT 56 (5, [some (zR 18 0), some (zI a1), some (zI a2), some (zI a2), some (zI 2)], [], M, true) Q) : zT 56 (0, [some (zR 18 0), some (zI a1), some (zI a2), none, none], [], M, true) Q := by
  refine zT.it 4 (t := (5, [some (zR 18 0), some (zI a1), some (zI a2), some (zI a2), some (zI 2)], [], M, true)) rfl ?_
  exact h
theorem g56_5 {x1 : Int} {x2 : Int} {x3 : Int} {x4 : Int} {M : zM} {cl : Bool} {Q : zQ} (h : (zr x4 ∧ zr (M.1 18 0 4)) ∧ (((M.1 18 0 4) ≤ x4 → Q (.inl (some (zI x3))) M cl 0) ∧ (¬ ((M.1 18 0 4) ≤ x4) → (z_wi x4 48) ∧ ((zr (M.1 20 0 x4.toNat) ∧ zr x1) ∧ ((¬ (M.1 20 0 x4.toNat) = x1 → zT 56 (5, [some (zR 18 0), some (zI x1), some (zI x2), some (zI x3), some (zI (x4 + 1))], [], M, cl) Q) ∧ ((M.1 20 0 x4.toNat) = x1 → (z_wi x4 48) ∧ (zT 56 (5, [some (zR 18 0), some (zI x1), some (zI x2), some (zI (M.1 21 0 x4.toNat)), some (zI (x4 + 1))], [], M, cl) Q))))))) : zT 56 (5, [some (zR 18 0), some (zI x1), some (zI x2), some (zI x3), some (zI x4)], [], M, cl) Q := by
  refine zT.it 3 (t := (11, [some (zR 18 0), some (zI x1), some (zI x2), some (zI x3), some (zI x4)], [zI (M.1 18 0 4), zI x4], M, cl)) rfl ?_
  refine zT.br (g := zr x4 ∧ zr (M.1 18 0 4)) (p := (M.1 18 0 4) ≤ x4) (t := (43, [some (zR 18 0), some (zI x1), some (zI x2), some (zI x3), some (zI x4)], [], M, cl)) (u := (14, [some (zR 18 0), some (zI x1), some (zI x2), some (zI x3), some (zI x4)], [], M, cl)) rfl h.1 (fun c => ?_) (fun c => ?_)
  · replace h := h.2.1 c
    refine zT.it 1 (t := (44, [some (zR 18 0), some (zI x1), some (zI x2), some (zI x3), some (zI x4)], [zI x3], M, cl)) rfl ?_
    exact zT.ret (v := some (zI x3)) rfl (by first | exact trivial | decide) h
  · replace h := h.2.2 c
    refine zT.it 3 (t := (20, [some (zR 18 0), some (zI x1), some (zI x2), some (zI x3), some (zI x4)], [zI x4, zR 20 0], M, cl)) rfl ?_
    refine zT.chk (p := z_wi x4 48) (t := (21, [some (zR 18 0), some (zI x1), some (zI x2), some (zI x3), some (zI x4)], [zI (M.1 20 0 x4.toNat)], M, cl)) rfl h.1 ?_
    replace h := h.2
    refine zT.it 1 (t := (22, [some (zR 18 0), some (zI x1), some (zI x2), some (zI x3), some (zI x4)], [zI x1, zI (M.1 20 0 x4.toNat)], M, cl)) rfl ?_
    refine zT.br (g := zr (M.1 20 0 x4.toNat) ∧ zr x1) (p := ¬ (M.1 20 0 x4.toNat) = x1) (t := (35, [some (zR 18 0), some (zI x1), some (zI x2), some (zI x3), some (zI x4)], [], M, cl)) (u := (25, [some (zR 18 0), some (zI x1), some (zI x2), some (zI x3), some (zI x4)], [], M, cl)) rfl h.1 (fun c => ?_) (fun c => ?_)
    · replace h := h.2.1 c
      refine zT.it 4 (t := (5, [some (zR 18 0), some (zI x1), some (zI x2), some (zI x3), some (zI (x4 + 1))], [], M, cl)) rfl ?_
      exact h
    · replace h := h.2.2 (Decidable.not_not.1 c)
      refine zT.it 3 (t := (31, [some (zR 18 0), some (zI x1), some (zI x2), some (zI x3), some (zI x4)], [zI x4, zR 21 0], M, cl)) rfl ?_
      refine zT.chk (p := z_wi x4 48) (t := (32, [some (zR 18 0), some (zI x1), some (zI x2), some (zI x3), some (zI x4)], [zI (M.1 21 0 x4.toNat)], M, cl)) rfl h.1 ?_
      replace h := h.2
      refine zT.it 4 (t := (5, [some (zR 18 0), some (zI x1), some (zI x2), some (zI (M.1 21 0 x4.toNat)), some (zI (x4 + 1))], [], M, cl)) rfl ?_
      exact h
theorem g57_0 {M : zM} {Q : zQ} (h : (zr (M.1 18 0 4) ∧ zr 2) ∧ (((M.1 18 0 4) < 2 → Q (.inl (some (zI 0))) M true 0) ∧ (¬ ((M.1 18 0 4) < 2) → (zr (M.1 20 0 1) ∧ zr 71) ∧ (((M.1 20 0 1) = 71 → zF 55 [zR 18 0, zI 88] M (fun v M1 => ∃ r1 : Int, v = some (zI r1) ∧ ∀ cl1 : Bool, zF 55 [zR 18 0, zI 89] M1 (fun v M2 => ∃ r2 : Int, v = some (zI r2) ∧ ∀ cl2 : Bool, zF 55 [zR 18 0, zI 69] M2 (fun v M3 => ∃ r3 : Int, v = some (zI r3) ∧ ∀ cl3 : Bool, zF 55 [zR 18 0, zI 70] M3 (fun v M4 => ∃ r4 : Int, v = some (zI r4) ∧ ∀ cl4 : Bool, (zr r1 ∧ zr 2) ∧ ((2 ≤ r1 → zT 57 (76, [some (zR 18 0), some (zI r1), some (zI r2), some (zI r3), some (zI r4), none, none], [zI 0], M4, cl4) Q) ∧ (¬ (2 ≤ r1) → (zr r2 ∧ zr 2) ∧ ((2 ≤ r2 → zT 57 (76, [some (zR 18 0), some (zI r1), some (zI r2), some (zI r3), some (zI r4), none, none], [zI 0], M4, cl4) Q) ∧ (¬ (2 ≤ r2) → (zr r3 ∧ zr 2) ∧ ((2 ≤ r3 → zT 57 (76, [some (zR 18 0), some (zI r1), some (zI r2), some (zI r3), some (zI r4), none, none], [zI 0], M4, cl4) Q) ∧ (¬ (2 ≤ r3) → (zr r4 ∧ zr 2) ∧ ((2 ≤ r4 → zT 57 (76, [some (zR 18 0), some (zI r1), some (zI r2), some (zI r3), some (zI r4), none, none], [zI 0], M4, cl4) Q) ∧ (¬ (2 ≤ r4) → zT 57 (76, [some (zR 18 0), some (zI r1), some (zI r2), some (zI r3), some (zI r4), none, none], [zI 1], M4, cl4) Q))))))))))))) ∧ (¬ ((M.1 20 0 1) = 71) → Q (.inl (some (zI 0))) M true 0))))) : zT 57 (0, [some (zR 18 0), none, none, none, none, none, none], [], M, true) Q := by
  refine zT.it 3 (t := (5, [some (zR 18 0), none, none, none, none, none, none], [zI 2, zI (M.1 18 0 4)], M, true)) rfl ?_
  refine zT.br (g := zr (M.1 18 0 4) ∧ zr 2) (p := (M.1 18 0 4) < 2) (t := (19, [some (zR 18 0), none, none, none, none, none, none], [], M, true)) (u := (8, [some (zR 18 0), none, none, none, none, none, none], [], M, true)) rfl h.1 (fun c => ?_) (fun c => ?_)
  · replace h := h.2.1 c
    refine zT.it 1 (t := (20, [some (zR 18 0), none, none, none, none, none, none], [zI 0], M, true)) rfl ?_
    exact zT.ret (v := some (zI 0)) rfl (by first | exact trivial | decide) h
  · replace h := h.2.2 c
    refine zT.it 3 (t := (13, [some (zR 18 0), none, none, none, none, none, none], [zI 1, zR 20 0], M, true)) rfl ?_
    refine zT.chk (t := (14, [some (zR 18 0), none, none, none, none, none, none], [zI (M.1 20 0 1)], M, true)) rfl (by first | decide | (dsimp only; decide)) ?_
    refine zT.it 1 (t := (16, [some (zR 18 0), none, none, none, none, none, none], [zI 71, zI (M.1 20 0 1)], M, true)) rfl ?_
    refine zT.br (g := zr (M.1 20 0 1) ∧ zr 71) (p := (M.1 20 0 1) = 71) (t := (21, [some (zR 18 0), none, none, none, none, none, none], [], M, true)) (u := (19, [some (zR 18 0), none, none, none, none, none, none], [], M, true)) rfl h.1 (fun c => ?_) (fun c => ?_)
    · replace h := h.2.1 c
      refine zT.it 2 (t := (24, [some (zR 18 0), none, none, none, none, none, none], [zI 88, zR 18 0], M, true)) rfl ?_
      refine zT.call (m := 55) (as := [zR 18 0, zI 88]) (M := M) (L := [some (zR 18 0), none, none, none, none, none, none]) (st := []) (pn := 27) (cl := true) rfl ?_
      refine zF.mono h (fun v M1 h cl1 => ?_)
      obtain ⟨r1, e1, h⟩ := h; subst e1; replace h := h cl1
      show zT 57 (27, [some (zR 18 0), none, none, none, none, none, none], [zI r1], M1, cl1) _
      refine zT.it 3 (t := (31, [some (zR 18 0), some (zI r1), none, none, none, none, none], [zI 89, zR 18 0], M1, cl1)) rfl ?_
      refine zT.call (m := 55) (as := [zR 18 0, zI 89]) (M := M1) (L := [some (zR 18 0), some (zI r1), none, none, none, none, none]) (st := []) (pn := 34) (cl := cl1) rfl ?_
      refine zF.mono h (fun v M2 h cl2 => ?_)
      obtain ⟨r2, e2, h⟩ := h; subst e2; replace h := h cl2
      show zT 57 (34, [some (zR 18 0), some (zI r1), none, none, none, none, none], [zI r2], M2, cl2) _
      refine zT.it 3 (t := (38, [some (zR 18 0), some (zI r1), some (zI r2), none, none, none, none], [zI 69, zR 18 0], M2, cl2)) rfl ?_
      refine zT.call (m := 55) (as := [zR 18 0, zI 69]) (M := M2) (L := [some (zR 18 0), some (zI r1), some (zI r2), none, none, none, none]) (st := []) (pn := 41) (cl := cl2) rfl ?_
      refine zF.mono h (fun v M3 h cl3 => ?_)
      obtain ⟨r3, e3, h⟩ := h; subst e3; replace h := h cl3
      show zT 57 (41, [some (zR 18 0), some (zI r1), some (zI r2), none, none, none, none], [zI r3], M3, cl3) _
      refine zT.it 3 (t := (45, [some (zR 18 0), some (zI r1), some (zI r2), some (zI r3), none, none, none], [zI 70, zR 18 0], M3, cl3)) rfl ?_
      refine zT.call (m := 55) (as := [zR 18 0, zI 70]) (M := M3) (L := [some (zR 18 0), some (zI r1), some (zI r2), some (zI r3), none, none, none]) (st := []) (pn := 48) (cl := cl3) rfl ?_
      refine zF.mono h (fun v M4 h cl4 => ?_)
      obtain ⟨r4, e4, h⟩ := h; subst e4; replace h := h cl4
      show zT 57 (48, [some (zR 18 0), some (zI r1), some (zI r2), some (zI r3), none, none, none], [zI r4], M4, cl4) _
      refine zT.it 3 (t := (52, [some (zR 18 0), some (zI r1), some (zI r2), some (zI r3), some (zI r4), none, none], [zI 2, zI r1], M4, cl4)) rfl ?_
      refine zT.br (g := zr r1 ∧ zr 2) (p := 2 ≤ r1) (t := (75, [some (zR 18 0), some (zI r1), some (zI r2), some (zI r3), some (zI r4), none, none], [], M4, cl4)) (u := (55, [some (zR 18 0), some (zI r1), some (zI r2), some (zI r3), some (zI r4), none, none], [], M4, cl4)) rfl h.1 (fun c => ?_) (fun c => ?_)
      · replace h := h.2.1 c
        refine zT.it 1 (t := (76, [some (zR 18 0), some (zI r1), some (zI r2), some (zI r3), some (zI r4), none, none], [zI 0], M4, cl4)) rfl ?_
        exact h
      · replace h := h.2.2 c
        refine zT.it 2 (t := (57, [some (zR 18 0), some (zI r1), some (zI r2), some (zI r3), some (zI r4), none, none], [zI 2, zI r2], M4, cl4)) rfl ?_
        refine zT.br (g := zr r2 ∧ zr 2) (p := 2 ≤ r2) (t := (75, [some (zR 18 0), some (zI r1), some (zI r2), some (zI r3), some (zI r4), none, none], [], M4, cl4)) (u := (60, [some (zR 18 0), some (zI r1), some (zI r2), some (zI r3), some (zI r4), none, none], [], M4, cl4)) rfl h.1 (fun c => ?_) (fun c => ?_)
        · replace h := h.2.1 c
          refine zT.it 1 (t := (76, [some (zR 18 0), some (zI r1), some (zI r2), some (zI r3), some (zI r4), none, none], [zI 0], M4, cl4)) rfl ?_
          exact h
        · replace h := h.2.2 c
          refine zT.it 2 (t := (62, [some (zR 18 0), some (zI r1), some (zI r2), some (zI r3), some (zI r4), none, none], [zI 2, zI r3], M4, cl4)) rfl ?_
          refine zT.br (g := zr r3 ∧ zr 2) (p := 2 ≤ r3) (t := (75, [some (zR 18 0), some (zI r1), some (zI r2), some (zI r3), some (zI r4), none, none], [], M4, cl4)) (u := (65, [some (zR 18 0), some (zI r1), some (zI r2), some (zI r3), some (zI r4), none, none], [], M4, cl4)) rfl h.1 (fun c => ?_) (fun c => ?_)
          · replace h := h.2.1 c
            refine zT.it 1 (t := (76, [some (zR 18 0), some (zI r1), some (zI r2), some (zI r3), some (zI r4), none, none], [zI 0], M4, cl4)) rfl ?_
            exact h
          · replace h := h.2.2 c
            refine zT.it 2 (t := (68, [some (zR 18 0), some (zI r1), some (zI r2), some (zI r3), some (zI r4), none, none], [zI 2, zI r4], M4, cl4)) rfl ?_
            refine zT.br (g := zr r4 ∧ zr 2) (p := 2 ≤ r4) (t := (75, [some (zR 18 0), some (zI r1), some (zI r2), some (zI r3), some (zI r4), none, none], [], M4, cl4)) (u := (71, [some (zR 18 0), some (zI r1), some (zI r2), some (zI r3), some (zI r4), none, none], [], M4, cl4)) rfl h.1 (fun c => ?_) (fun c => ?_)
            · replace h := h.2.1 c
              refine zT.it 1 (t := (76, [some (zR 18 0), some (zI r1), some (zI r2), some (zI r3), some (zI r4), none, none], [zI 0], M4, cl4)) rfl ?_
              exact h
            · replace h := h.2.2 c
              refine zT.it 2 (t := (76, [some (zR 18 0), some (zI r1), some (zI r2), some (zI r3), some (zI r4), none, none], [zI 1], M4, cl4)) rfl ?_
              exact h
    · replace h := h.2.2 c
      refine zT.it 1 (t := (20, [some (zR 18 0), none, none, none, none, none, none], [zI 0], M, true)) rfl ?_
      exact zT.ret (v := some (zI 0)) rfl (by first | exact trivial | decide) h
