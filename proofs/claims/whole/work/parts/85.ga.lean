-- what each piece of the program asks (written by gen/g.py out of the program itself)
theorem g0_0_32 {a2 : Int} {M : zM} {Q : zQ} (h : (zr a2 ∧ zr (Int.ofNat M.2.2)) ∧ (((Int.ofNat M.2.2) ≤ a2 → Q (.inl (some (zI 0))) M true 0) ∧ (¬ ((Int.ofNat M.2.2) ≤ a2) → (z_wi a2 M.2.2) ∧ (Q (.inl (some (zI (M.1 32 0 a2.toNat)))) M true 0)))) : zT 0 (0, [some (zR 32 0), some (zI a2)], [], M, true) Q := by
  refine zT.it 3 (t := (3, [some (zR 32 0), some (zI a2)], [zI (Int.ofNat M.2.2), zI a2], M, true)) rfl ?_
  refine zT.br (g := zr a2 ∧ zr (Int.ofNat M.2.2)) (p := (Int.ofNat M.2.2) ≤ a2) (t := (12, [some (zR 32 0), some (zI a2)], [], M, true)) (u := (6, [some (zR 32 0), some (zI a2)], [], M, true)) rfl h.1 (fun c => ?_) (fun c => ?_)
  · replace h := h.2.1 c
    refine zT.it 1 (t := (13, [some (zR 32 0), some (zI a2)], [zI 0], M, true)) rfl ?_
    exact zT.ret (v := some (zI 0)) rfl (by first | exact trivial | decide) h
  · replace h := h.2.2 c
    refine zT.it 2 (t := (8, [some (zR 32 0), some (zI a2)], [zI a2, zR 32 0], M, true)) rfl ?_
    refine zT.chk (p := z_wi a2 M.2.2) (t := (9, [some (zR 32 0), some (zI a2)], [zI (M.1 32 0 a2.toNat)], M, true)) rfl h.1 ?_
    replace h := h.2
    refine zT.it 1 (t := (13, [some (zR 32 0), some (zI a2)], [zI (M.1 32 0 a2.toNat)], M, true)) rfl ?_
    exact zT.ret (v := some (zI (M.1 32 0 a2.toNat))) rfl (by first | exact trivial | decide) h
theorem g1_0 {a1 : Int} {M : zM} {Q : zQ} (h : zT 1 (8, [some (zR 1 0), some (zJ a1), none, some (zI (M.1 1 0 1)), some (zI 0), none], [], M, true) Q) : zT 1 (0, [some (zR 1 0), some (zJ a1), none, none, none, none], [], M, true) Q := by
  refine zT.it 5 (t := (8, [some (zR 1 0), some (zJ a1), none, some (zI (M.1 1 0 1)), some (zI 0), none], [], M, true)) rfl ?_
  exact h
theorem g1_8 {x1 : Int} {x3 : Int} {x4 : Int} {u5 : Option zV} {M : zM} {cl : Bool} {Q : zQ} (h : (zr x4 ∧ zr 64) ∧ ((64 ≤ x4 → Q (.inl (some (zI 1))) (z_w M 1 0 1 x3) false 0) ∧ (¬ (64 ≤ x4) → (0 ≤ x4 ∧ x4 < 64) ∧ ((zr ((x1 % 18446744073709551616 / 2 ^ x4.toNat) % 256)) ∧ ((¬ ((x1 % 18446744073709551616 / 2 ^ x4.toNat) % 256) = 0 → (zr ((x1 % 18446744073709551616 / 2 ^ x4.toNat) % 256) ∧ zr 32) ∧ ((((x1 % 18446744073709551616 / 2 ^ x4.toNat) % 256) < 32 → Q (.inl (some (zI 0))) M cl 0) ∧ (¬ (((x1 % 18446744073709551616 / 2 ^ x4.toNat) % 256) < 32) → (zr ((x1 % 18446744073709551616 / 2 ^ x4.toNat) % 256) ∧ zr 126) ∧ ((126 < ((x1 % 18446744073709551616 / 2 ^ x4.toNat) % 256) → Q (.inl (some (zI 0))) M cl 0) ∧ (¬ (126 < ((x1 % 18446744073709551616 / 2 ^ x4.toNat) % 256)) → (zr x3 ∧ zr 80) ∧ ((x3 < 80 → (0 ≤ ((x1 % 18446744073709551616 / 2 ^ x4.toNat) % 256) ∧ ((x1 % 18446744073709551616 / 2 ^ x4.toNat) % 256) ≤ 65535) ∧ ((z_wi x3 80 ∧ 0 ≤ ((x1 % 18446744073709551616 / 2 ^ x4.toNat) % 256) ∧ ((x1 % 18446744073709551616 / 2 ^ x4.toNat) % 256) ≤ 65535) ∧ (zT 1 (8, [some (zR 1 0), some (zJ x1), none, some (zI (x3 + 1)), some (zI (x4 + 8)), some (zI ((x1 % 18446744073709551616 / 2 ^ x4.toNat) % 256))], [], (z_w M 2 0 x3.toNat ((x1 % 18446744073709551616 / 2 ^ x4.toNat) % 256)), false) Q))) ∧ (¬ (x3 < 80) → Q (.inl (some (zI 0))) M cl 0))))))) ∧ (((x1 % 18446744073709551616 / 2 ^ x4.toNat) % 256) = 0 → zT 1 (8, [some (zR 1 0), some (zJ x1), none, some (zI x3), some (zI (x4 + 8)), some (zI ((x1 % 18446744073709551616 / 2 ^ x4.toNat) % 256))], [], M, cl) Q)))))) : zT 1 (8, [some (zR 1 0), some (zJ x1), none, some (zI x3), some (zI x4), u5], [], M, cl) Q := by
  refine zT.it 2 (t := (12, [some (zR 1 0), some (zJ x1), none, some (zI x3), some (zI x4), u5], [zI 64, zI x4], M, cl)) rfl ?_
  refine zT.br (g := zr x4 ∧ zr 64) (p := 64 ≤ x4) (t := (74, [some (zR 1 0), some (zJ x1), none, some (zI x3), some (zI x4), u5], [], M, cl)) (u := (15, [some (zR 1 0), some (zJ x1), none, some (zI x3), some (zI x4), u5], [], M, cl)) rfl h.1 (fun c => ?_) (fun c => ?_)
  · replace h := h.2.1 c
    refine zT.it 4 (t := (80, [some (zR 1 0), some (zJ x1), none, some (zI x3), some (zI x4), u5], [zI 1], (z_w M 1 0 1 x3), false)) rfl ?_
    exact zT.ret (v := some (zI 1)) rfl (by first | exact trivial | decide) h
  · replace h := h.2.2 c
    refine zT.it 2 (t := (18, [some (zR 1 0), some (zJ x1), none, some (zI x3), some (zI x4), u5], [zI x4, zJ x1], M, cl)) rfl ?_
    refine zT.chk (p := 0 ≤ x4 ∧ x4 < 64) (t := (19, [some (zR 1 0), some (zJ x1), none, some (zI x3), some (zI x4), u5], [zJ (x1 % 18446744073709551616 / 2 ^ x4.toNat)], M, cl)) rfl h.1 ?_
    replace h := h.2
    refine zT.it 2 (t := (23, [some (zR 1 0), some (zJ x1), none, some (zI x3), some (zI x4), u5], [zI 255, zI (x1 % 18446744073709551616 / 2 ^ x4.toNat)], M, cl)) rfl ?_
    refine zT.chk (t := (24, [some (zR 1 0), some (zJ x1), none, some (zI x3), some (zI x4), u5], [zI ((x1 % 18446744073709551616 / 2 ^ x4.toNat) % 256)], M, cl)) rfl (by first | decide | (dsimp only; decide)) ?_
    refine zT.it 2 (t := (28, [some (zR 1 0), some (zJ x1), none, some (zI x3), some (zI x4), some (zI ((x1 % 18446744073709551616 / 2 ^ x4.toNat) % 256))], [zI ((x1 % 18446744073709551616 / 2 ^ x4.toNat) % 256)], M, cl)) rfl ?_
    refine zT.br (g := zr ((x1 % 18446744073709551616 / 2 ^ x4.toNat) % 256)) (p := ¬ ((x1 % 18446744073709551616 / 2 ^ x4.toNat) % 256) = 0) (t := (34, [some (zR 1 0), some (zJ x1), none, some (zI x3), some (zI x4), some (zI ((x1 % 18446744073709551616 / 2 ^ x4.toNat) % 256))], [], M, cl)) (u := (31, [some (zR 1 0), some (zJ x1), none, some (zI x3), some (zI x4), some (zI ((x1 % 18446744073709551616 / 2 ^ x4.toNat) % 256))], [], M, cl)) rfl h.1 (fun c => ?_) (fun c => ?_)
    · replace h := h.2.1 c
      refine zT.it 2 (t := (38, [some (zR 1 0), some (zJ x1), none, some (zI x3), some (zI x4), some (zI ((x1 % 18446744073709551616 / 2 ^ x4.toNat) % 256))], [zI 32, zI ((x1 % 18446744073709551616 / 2 ^ x4.toNat) % 256)], M, cl)) rfl ?_
      refine zT.br (g := zr ((x1 % 18446744073709551616 / 2 ^ x4.toNat) % 256) ∧ zr 32) (p := ((x1 % 18446744073709551616 / 2 ^ x4.toNat) % 256) < 32) (t := (54, [some (zR 1 0), some (zJ x1), none, some (zI x3), some (zI x4), some (zI ((x1 % 18446744073709551616 / 2 ^ x4.toNat) % 256))], [], M, cl)) (u := (41, [some (zR 1 0), some (zJ x1), none, some (zI x3), some (zI x4), some (zI ((x1 % 18446744073709551616 / 2 ^ x4.toNat) % 256))], [], M, cl)) rfl h.1 (fun c => ?_) (fun c => ?_)
      · replace h := h.2.1 c
        refine zT.it 1 (t := (55, [some (zR 1 0), some (zJ x1), none, some (zI x3), some (zI x4), some (zI ((x1 % 18446744073709551616 / 2 ^ x4.toNat) % 256))], [zI 0], M, cl)) rfl ?_
        exact zT.ret (v := some (zI 0)) rfl (by first | exact trivial | decide) h
      · replace h := h.2.2 c
        refine zT.it 2 (t := (45, [some (zR 1 0), some (zJ x1), none, some (zI x3), some (zI x4), some (zI ((x1 % 18446744073709551616 / 2 ^ x4.toNat) % 256))], [zI 126, zI ((x1 % 18446744073709551616 / 2 ^ x4.toNat) % 256)], M, cl)) rfl ?_
        refine zT.br (g := zr ((x1 % 18446744073709551616 / 2 ^ x4.toNat) % 256) ∧ zr 126) (p := 126 < ((x1 % 18446744073709551616 / 2 ^ x4.toNat) % 256)) (t := (54, [some (zR 1 0), some (zJ x1), none, some (zI x3), some (zI x4), some (zI ((x1 % 18446744073709551616 / 2 ^ x4.toNat) % 256))], [], M, cl)) (u := (48, [some (zR 1 0), some (zJ x1), none, some (zI x3), some (zI x4), some (zI ((x1 % 18446744073709551616 / 2 ^ x4.toNat) % 256))], [], M, cl)) rfl h.1 (fun c => ?_) (fun c => ?_)
        · replace h := h.2.1 c
          refine zT.it 1 (t := (55, [some (zR 1 0), some (zJ x1), none, some (zI x3), some (zI x4), some (zI ((x1 % 18446744073709551616 / 2 ^ x4.toNat) % 256))], [zI 0], M, cl)) rfl ?_
          exact zT.ret (v := some (zI 0)) rfl (by first | exact trivial | decide) h
        · replace h := h.2.2 c
          refine zT.it 2 (t := (51, [some (zR 1 0), some (zJ x1), none, some (zI x3), some (zI x4), some (zI ((x1 % 18446744073709551616 / 2 ^ x4.toNat) % 256))], [zI 80, zI x3], M, cl)) rfl ?_
          refine zT.br (g := zr x3 ∧ zr 80) (p := x3 < 80) (t := (56, [some (zR 1 0), some (zJ x1), none, some (zI x3), some (zI x4), some (zI ((x1 % 18446744073709551616 / 2 ^ x4.toNat) % 256))], [], M, cl)) (u := (54, [some (zR 1 0), some (zJ x1), none, some (zI x3), some (zI x4), some (zI ((x1 % 18446744073709551616 / 2 ^ x4.toNat) % 256))], [], M, cl)) rfl h.1 (fun c => ?_) (fun c => ?_)
          · replace h := h.2.1 c
            refine zT.it 4 (t := (63, [some (zR 1 0), some (zJ x1), none, some (zI x3), some (zI x4), some (zI ((x1 % 18446744073709551616 / 2 ^ x4.toNat) % 256))], [zI ((x1 % 18446744073709551616 / 2 ^ x4.toNat) % 256), zI x3, zR 2 0], M, cl)) rfl ?_
            refine zT.chk (p := 0 ≤ ((x1 % 18446744073709551616 / 2 ^ x4.toNat) % 256) ∧ ((x1 % 18446744073709551616 / 2 ^ x4.toNat) % 256) ≤ 65535) (t := (64, [some (zR 1 0), some (zJ x1), none, some (zI x3), some (zI x4), some (zI ((x1 % 18446744073709551616 / 2 ^ x4.toNat) % 256))], [zI ((x1 % 18446744073709551616 / 2 ^ x4.toNat) % 256), zI x3, zR 2 0], M, cl)) rfl h.1 ?_
            replace h := h.2
            refine zT.chk (p := z_wi x3 80 ∧ 0 ≤ ((x1 % 18446744073709551616 / 2 ^ x4.toNat) % 256) ∧ ((x1 % 18446744073709551616 / 2 ^ x4.toNat) % 256) ≤ 65535) (t := (65, [some (zR 1 0), some (zJ x1), none, some (zI x3), some (zI x4), some (zI ((x1 % 18446744073709551616 / 2 ^ x4.toNat) % 256))], [], (z_w M 2 0 x3.toNat ((x1 % 18446744073709551616 / 2 ^ x4.toNat) % 256)), false)) rfl h.1 ?_
            replace h := h.2
            refine zT.it 3 (t := (8, [some (zR 1 0), some (zJ x1), none, some (zI (x3 + 1)), some (zI (x4 + 8)), some (zI ((x1 % 18446744073709551616 / 2 ^ x4.toNat) % 256))], [], (z_w M 2 0 x3.toNat ((x1 % 18446744073709551616 / 2 ^ x4.toNat) % 256)), false)) rfl ?_
            exact h
          · replace h := h.2.2 c
            refine zT.it 1 (t := (55, [some (zR 1 0), some (zJ x1), none, some (zI x3), some (zI x4), some (zI ((x1 % 18446744073709551616 / 2 ^ x4.toNat) % 256))], [zI 0], M, cl)) rfl ?_
            exact zT.ret (v := some (zI 0)) rfl (by first | exact trivial | decide) h
    · replace h := h.2.2 (Decidable.not_not.1 c)
      refine zT.it 3 (t := (8, [some (zR 1 0), some (zJ x1), none, some (zI x3), some (zI (x4 + 8)), some (zI ((x1 % 18446744073709551616 / 2 ^ x4.toNat) % 256))], [], M, cl)) rfl ?_
      exact h
theorem g2_0 {a1 : Int} {M : zM} {Q : zQ} (h : zF 1 [zR 1 0, zJ a1] M (fun v M1 => ∃ r1 : Int, v = some (zI r1) ∧ ∀ cl1 : Bool, (r1 = 0 ∨ r1 = 1) ∧ Q (.inl (some (zI r1))) M1 cl1 0)) : zT 2 (0, [some (zR 0 0), some (zJ a1), none], [], M, true) Q := by
  refine zT.it 3 (t := (5, [some (zR 0 0), some (zJ a1), none], [zJ a1, zR 1 0], M, true)) rfl ?_
  refine zT.call (m := 1) (as := [zR 1 0, zJ a1]) (M := M) (L := [some (zR 0 0), some (zJ a1), none]) (st := []) (pn := 8) (cl := true) rfl ?_
  refine zF.mono h (fun v M1 h cl1 => ?_)
  obtain ⟨r1, e1, h⟩ := h; subst e1; replace h := h cl1
  show zT 2 (8, [some (zR 0 0), some (zJ a1), none], [zI r1], M1, cl1) _
  exact zT.ret (p := r1 = 0 ∨ r1 = 1) (v := some (zI r1)) rfl h.1 h.2
theorem g3_0 {a1 : Int} {M : zM} {Q : zQ} (h : zT 3 (10, [some (zR 18 0), some (zJ a1), none, some (zI 0), some (zI 0), none], [], (z_w M 18 0 1 0), false) Q) : zT 3 (0, [some (zR 18 0), some (zJ a1), none, none, none, none], [], M, true) Q := by
  refine zT.it 7 (t := (10, [some (zR 18 0), some (zJ a1), none, some (zI 0), some (zI 0), none], [], (z_w M 18 0 1 0), false)) rfl ?_
  exact h
theorem g3_10 {x1 : Int} {x3 : Int} {x4 : Int} {u5 : Option zV} {M : zM} {cl : Bool} {Q : zQ} (h : (zr x4 ∧ zr 8) ∧ ((8 ≤ x4 → (zr ((M.1 18 0 2) + x3) ∧ zr 80) ∧ ((((M.1 18 0 2) + x3) ≤ 80 → zT 3 (87, [some (zR 18 0), some (zJ x1), none, some (zI x3), some (zI 0), u5], [], M, cl) Q) ∧ (¬ (((M.1 18 0 2) + x3) ≤ 80) → Q (.inl (some (zI 0))) M cl 0))) ∧ (¬ (8 ≤ x4) → (0 ≤ (8 * x4) ∧ (8 * x4) < 64) ∧ ((zr ((x1 % 18446744073709551616 / 2 ^ (8 * x4).toNat) % 256)) ∧ ((((x1 % 18446744073709551616 / 2 ^ (8 * x4).toNat) % 256) = 0 → (zr ((x1 % 18446744073709551616 / 2 ^ (8 * x4).toNat) % 256)) ∧ ((¬ ((x1 % 18446744073709551616 / 2 ^ (8 * x4).toNat) % 256) = 0 → zT 3 (10, [some (zR 18 0), some (zJ x1), none, some (zI (x3 + 1)), some (zI (x4 + 1)), some (zI ((x1 % 18446744073709551616 / 2 ^ (8 * x4).toNat) % 256))], [], M, cl) Q) ∧ (((x1 % 18446744073709551616 / 2 ^ (8 * x4).toNat) % 256) = 0 → zT 3 (10, [some (zR 18 0), some (zJ x1), none, some (zI (x3 + 0)), some (zI (x4 + 1)), some (zI ((x1 % 18446744073709551616 / 2 ^ (8 * x4).toNat) % 256))], [], M, cl) Q))) ∧ (¬ (((x1 % 18446744073709551616 / 2 ^ (8 * x4).toNat) % 256) = 0) → (zr ((x1 % 18446744073709551616 / 2 ^ (8 * x4).toNat) % 256) ∧ zr 32) ∧ ((((x1 % 18446744073709551616 / 2 ^ (8 * x4).toNat) % 256) < 32 → Q (.inl (some (zI 0))) M cl 0) ∧ (¬ (((x1 % 18446744073709551616 / 2 ^ (8 * x4).toNat) % 256) < 32) → (zr ((x1 % 18446744073709551616 / 2 ^ (8 * x4).toNat) % 256) ∧ zr 126) ∧ ((((x1 % 18446744073709551616 / 2 ^ (8 * x4).toNat) % 256) ≤ 126 → (zr ((x1 % 18446744073709551616 / 2 ^ (8 * x4).toNat) % 256)) ∧ ((¬ ((x1 % 18446744073709551616 / 2 ^ (8 * x4).toNat) % 256) = 0 → zT 3 (10, [some (zR 18 0), some (zJ x1), none, some (zI (x3 + 1)), some (zI (x4 + 1)), some (zI ((x1 % 18446744073709551616 / 2 ^ (8 * x4).toNat) % 256))], [], M, cl) Q) ∧ (((x1 % 18446744073709551616 / 2 ^ (8 * x4).toNat) % 256) = 0 → zT 3 (10, [some (zR 18 0), some (zJ x1), none, some (zI (x3 + 0)), some (zI (x4 + 1)), some (zI ((x1 % 18446744073709551616 / 2 ^ (8 * x4).toNat) % 256))], [], M, cl) Q))) ∧ (¬ (((x1 % 18446744073709551616 / 2 ^ (8 * x4).toNat) % 256) ≤ 126) → Q (.inl (some (zI 0))) M cl 0)))))))))) : zT 3 (10, [some (zR 18 0), some (zJ x1), none, some (zI x3), some (zI x4), u5], [], M, cl) Q := by
  refine zT.it 2 (t := (14, [some (zR 18 0), some (zJ x1), none, some (zI x3), some (zI x4), u5], [zI 8, zI x4], M, cl)) rfl ?_
  refine zT.br (g := zr x4 ∧ zr 8) (p := 8 ≤ x4) (t := (71, [some (zR 18 0), some (zJ x1), none, some (zI x3), some (zI x4), u5], [], M, cl)) (u := (17, [some (zR 18 0), some (zJ x1), none, some (zI x3), some (zI x4), u5], [], M, cl)) rfl h.1 (fun c => ?_) (fun c => ?_)
  · replace h := h.2.1 c
    refine zT.it 5 (t := (79, [some (zR 18 0), some (zJ x1), none, some (zI x3), some (zI x4), u5], [zI 80, zI ((M.1 18 0 2) + x3)], M, cl)) rfl ?_
    refine zT.br (g := zr ((M.1 18 0 2) + x3) ∧ zr 80) (p := ((M.1 18 0 2) + x3) ≤ 80) (t := (84, [some (zR 18 0), some (zJ x1), none, some (zI x3), some (zI x4), u5], [], M, cl)) (u := (82, [some (zR 18 0), some (zJ x1), none, some (zI x3), some (zI x4), u5], [], M, cl)) rfl h.1 (fun c => ?_) (fun c => ?_)
    · replace h := h.2.1 c
      refine zT.it 2 (t := (87, [some (zR 18 0), some (zJ x1), none, some (zI x3), some (zI 0), u5], [], M, cl)) rfl ?_
      exact h
    · replace h := h.2.2 c
      refine zT.it 1 (t := (83, [some (zR 18 0), some (zJ x1), none, some (zI x3), some (zI x4), u5], [zI 0], M, cl)) rfl ?_
      exact zT.ret (v := some (zI 0)) rfl (by first | exact trivial | decide) h
  · replace h := h.2.2 c
    refine zT.it 4 (t := (23, [some (zR 18 0), some (zJ x1), none, some (zI x3), some (zI x4), u5], [zI (8 * x4), zJ x1], M, cl)) rfl ?_
    refine zT.chk (p := 0 ≤ (8 * x4) ∧ (8 * x4) < 64) (t := (24, [some (zR 18 0), some (zJ x1), none, some (zI x3), some (zI x4), u5], [zJ (x1 % 18446744073709551616 / 2 ^ (8 * x4).toNat)], M, cl)) rfl h.1 ?_
    replace h := h.2
    refine zT.it 1 (t := (27, [some (zR 18 0), some (zJ x1), none, some (zI x3), some (zI x4), u5], [zJ 255, zJ (x1 % 18446744073709551616 / 2 ^ (8 * x4).toNat)], M, cl)) rfl ?_
    refine zT.chk (t := (28, [some (zR 18 0), some (zJ x1), none, some (zI x3), some (zI x4), u5], [zJ ((x1 % 18446744073709551616 / 2 ^ (8 * x4).toNat) % 256)], M, cl)) rfl (by first | decide | (dsimp only; decide)) ?_
    refine zT.it 3 (t := (33, [some (zR 18 0), some (zJ x1), none, some (zI x3), some (zI x4), some (zI ((x1 % 18446744073709551616 / 2 ^ (8 * x4).toNat) % 256))], [zI ((x1 % 18446744073709551616 / 2 ^ (8 * x4).toNat) % 256)], M, cl)) rfl ?_
    refine zT.br (g := zr ((x1 % 18446744073709551616 / 2 ^ (8 * x4).toNat) % 256)) (p := ((x1 % 18446744073709551616 / 2 ^ (8 * x4).toNat) % 256) = 0) (t := (52, [some (zR 18 0), some (zJ x1), none, some (zI x3), some (zI x4), some (zI ((x1 % 18446744073709551616 / 2 ^ (8 * x4).toNat) % 256))], [], M, cl)) (u := (36, [some (zR 18 0), some (zJ x1), none, some (zI x3), some (zI x4), some (zI ((x1 % 18446744073709551616 / 2 ^ (8 * x4).toNat) % 256))], [], M, cl)) rfl h.1 (fun c => ?_) (fun c => ?_)
    · replace h := h.2.1 c
      refine zT.it 2 (t := (55, [some (zR 18 0), some (zJ x1), none, some (zI x3), some (zI x4), some (zI ((x1 % 18446744073709551616 / 2 ^ (8 * x4).toNat) % 256))], [zI ((x1 % 18446744073709551616 / 2 ^ (8 * x4).toNat) % 256), zI x3], M, cl)) rfl ?_
      refine zT.br (g := zr ((x1 % 18446744073709551616 / 2 ^ (8 * x4).toNat) % 256)) (p := ¬ ((x1 % 18446744073709551616 / 2 ^ (8 * x4).toNat) % 256) = 0) (t := (62, [some (zR 18 0), some (zJ x1), none, some (zI x3), some (zI x4), some (zI ((x1 % 18446744073709551616 / 2 ^ (8 * x4).toNat) % 256))], [zI x3], M, cl)) (u := (58, [some (zR 18 0), some (zJ x1), none, some (zI x3), some (zI x4), some (zI ((x1 % 18446744073709551616 / 2 ^ (8 * x4).toNat) % 256))], [zI x3], M, cl)) rfl h.1 (fun c => ?_) (fun c => ?_)
      · replace h := h.2.1 c
        refine zT.it 5 (t := (10, [some (zR 18 0), some (zJ x1), none, some (zI (x3 + 1)), some (zI (x4 + 1)), some (zI ((x1 % 18446744073709551616 / 2 ^ (8 * x4).toNat) % 256))], [], M, cl)) rfl ?_
        exact h
      · replace h := h.2.2 (Decidable.not_not.1 c)
        refine zT.it 6 (t := (10, [some (zR 18 0), some (zJ x1), none, some (zI (x3 + 0)), some (zI (x4 + 1)), some (zI ((x1 % 18446744073709551616 / 2 ^ (8 * x4).toNat) % 256))], [], M, cl)) rfl ?_
        exact h
    · replace h := h.2.2 c
      refine zT.it 2 (t := (40, [some (zR 18 0), some (zJ x1), none, some (zI x3), some (zI x4), some (zI ((x1 % 18446744073709551616 / 2 ^ (8 * x4).toNat) % 256))], [zI 32, zI ((x1 % 18446744073709551616 / 2 ^ (8 * x4).toNat) % 256)], M, cl)) rfl ?_
      refine zT.br (g := zr ((x1 % 18446744073709551616 / 2 ^ (8 * x4).toNat) % 256) ∧ zr 32) (p := ((x1 % 18446744073709551616 / 2 ^ (8 * x4).toNat) % 256) < 32) (t := (50, [some (zR 18 0), some (zJ x1), none, some (zI x3), some (zI x4), some (zI ((x1 % 18446744073709551616 / 2 ^ (8 * x4).toNat) % 256))], [], M, cl)) (u := (43, [some (zR 18 0), some (zJ x1), none, some (zI x3), some (zI x4), some (zI ((x1 % 18446744073709551616 / 2 ^ (8 * x4).toNat) % 256))], [], M, cl)) rfl h.1 (fun c => ?_) (fun c => ?_)
      · replace h := h.2.1 c
        refine zT.it 1 (t := (51, [some (zR 18 0), some (zJ x1), none, some (zI x3), some (zI x4), some (zI ((x1 % 18446744073709551616 / 2 ^ (8 * x4).toNat) % 256))], [zI 0], M, cl)) rfl ?_
        exact zT.ret (v := some (zI 0)) rfl (by first | exact trivial | decide) h
      · replace h := h.2.2 c
        refine zT.it 2 (t := (47, [some (zR 18 0), some (zJ x1), none, some (zI x3), some (zI x4), some (zI ((x1 % 18446744073709551616 / 2 ^ (8 * x4).toNat) % 256))], [zI 126, zI ((x1 % 18446744073709551616 / 2 ^ (8 * x4).toNat) % 256)], M, cl)) rfl ?_
        refine zT.br (g := zr ((x1 % 18446744073709551616 / 2 ^ (8 * x4).toNat) % 256) ∧ zr 126) (p := ((x1 % 18446744073709551616 / 2 ^ (8 * x4).toNat) % 256) ≤ 126) (t := (52, [some (zR 18 0), some (zJ x1), none, some (zI x3), some (zI x4), some (zI ((x1 % 18446744073709551616 / 2 ^ (8 * x4).toNat) % 256))], [], M, cl)) (u := (50, [some (zR 18 0), some (zJ x1), none, some (zI x3), some (zI x4), some (zI ((x1 % 18446744073709551616 / 2 ^ (8 * x4).toNat) % 256))], [], M, cl)) rfl h.1 (fun c => ?_) (fun c => ?_)
        · replace h := h.2.1 c
          refine zT.it 2 (t := (55, [some (zR 18 0), some (zJ x1), none, some (zI x3), some (zI x4), some (zI ((x1 % 18446744073709551616 / 2 ^ (8 * x4).toNat) % 256))], [zI ((x1 % 18446744073709551616 / 2 ^ (8 * x4).toNat) % 256), zI x3], M, cl)) rfl ?_
          refine zT.br (g := zr ((x1 % 18446744073709551616 / 2 ^ (8 * x4).toNat) % 256)) (p := ¬ ((x1 % 18446744073709551616 / 2 ^ (8 * x4).toNat) % 256) = 0) (t := (62, [some (zR 18 0), some (zJ x1), none, some (zI x3), some (zI x4), some (zI ((x1 % 18446744073709551616 / 2 ^ (8 * x4).toNat) % 256))], [zI x3], M, cl)) (u := (58, [some (zR 18 0), some (zJ x1), none, some (zI x3), some (zI x4), some (zI ((x1 % 18446744073709551616 / 2 ^ (8 * x4).toNat) % 256))], [zI x3], M, cl)) rfl h.1 (fun c => ?_) (fun c => ?_)
          · replace h := h.2.1 c
            refine zT.it 5 (t := (10, [some (zR 18 0), some (zJ x1), none, some (zI (x3 + 1)), some (zI (x4 + 1)), some (zI ((x1 % 18446744073709551616 / 2 ^ (8 * x4).toNat) % 256))], [], M, cl)) rfl ?_
            exact h
          · replace h := h.2.2 (Decidable.not_not.1 c)
            refine zT.it 6 (t := (10, [some (zR 18 0), some (zJ x1), none, some (zI (x3 + 0)), some (zI (x4 + 1)), some (zI ((x1 % 18446744073709551616 / 2 ^ (8 * x4).toNat) % 256))], [], M, cl)) rfl ?_
            exact h
        · replace h := h.2.2 c
          refine zT.it 1 (t := (51, [some (zR 18 0), some (zJ x1), none, some (zI x3), some (zI x4), some (zI ((x1 % 18446744073709551616 / 2 ^ (8 * x4).toNat) % 256))], [zI 0], M, cl)) rfl ?_
          exact zT.ret (v := some (zI 0)) rfl (by first | exact trivial | decide) h
theorem g3_87 {x1 : Int} {x3 : Int} {x4 : Int} {u5 : Option zV} {M : zM} {cl : Bool} {Q : zQ} (h : (zr x4 ∧ zr 8) ∧ ((8 ≤ x4 → Q (.inl (some (zI 1))) M cl 0) ∧ (¬ (8 ≤ x4) → (0 ≤ (8 * x4) ∧ (8 * x4) < 64) ∧ ((zr ((x1 % 18446744073709551616 / 2 ^ (8 * x4).toNat) % 256)) ∧ ((((x1 % 18446744073709551616 / 2 ^ (8 * x4).toNat) % 256) = 0 → zT 3 (87, [some (zR 18 0), some (zJ x1), none, some (zI x3), some (zI (x4 + 1)), some (zI ((x1 % 18446744073709551616 / 2 ^ (8 * x4).toNat) % 256))], [], M, cl) Q) ∧ (¬ (((x1 % 18446744073709551616 / 2 ^ (8 * x4).toNat) % 256) = 0) → (0 ≤ ((x1 % 18446744073709551616 / 2 ^ (8 * x4).toNat) % 256) ∧ ((x1 % 18446744073709551616 / 2 ^ (8 * x4).toNat) % 256) ≤ 65535) ∧ ((z_wi (M.1 18 0 2) 80 ∧ 0 ≤ ((x1 % 18446744073709551616 / 2 ^ (8 * x4).toNat) % 256) ∧ ((x1 % 18446744073709551616 / 2 ^ (8 * x4).toNat) % 256) ≤ 65535) ∧ (zT 3 (87, [some (zR 18 0), some (zJ x1), none, some (zI x3), some (zI (x4 + 1)), some (zI ((x1 % 18446744073709551616 / 2 ^ (8 * x4).toNat) % 256))], [], (z_w (z_w M 19 0 ((M.1 18 0 2).toNat) ((x1 % 18446744073709551616 / 2 ^ (8 * x4).toNat) % 256)) 18 0 2 ((M.1 18 0 2) + 1)), false) Q)))))))) : zT 3 (87, [some (zR 18 0), some (zJ x1), none, some (zI x3), some (zI x4), u5], [], M, cl) Q := by
  refine zT.it 2 (t := (91, [some (zR 18 0), some (zJ x1), none, some (zI x3), some (zI x4), u5], [zI 8, zI x4], M, cl)) rfl ?_
  refine zT.br (g := zr x4 ∧ zr 8) (p := 8 ≤ x4) (t := (141, [some (zR 18 0), some (zJ x1), none, some (zI x3), some (zI x4), u5], [], M, cl)) (u := (94, [some (zR 18 0), some (zJ x1), none, some (zI x3), some (zI x4), u5], [], M, cl)) rfl h.1 (fun c => ?_) (fun c => ?_)
  · replace h := h.2.1 c
    refine zT.it 1 (t := (142, [some (zR 18 0), some (zJ x1), none, some (zI x3), some (zI x4), u5], [zI 1], M, cl)) rfl ?_
    exact zT.ret (v := some (zI 1)) rfl (by first | exact trivial | decide) h
  · replace h := h.2.2 c
    refine zT.it 4 (t := (100, [some (zR 18 0), some (zJ x1), none, some (zI x3), some (zI x4), u5], [zI (8 * x4), zJ x1], M, cl)) rfl ?_
    refine zT.chk (p := 0 ≤ (8 * x4) ∧ (8 * x4) < 64) (t := (101, [some (zR 18 0), some (zJ x1), none, some (zI x3), some (zI x4), u5], [zJ (x1 % 18446744073709551616 / 2 ^ (8 * x4).toNat)], M, cl)) rfl h.1 ?_
    replace h := h.2
    refine zT.it 1 (t := (104, [some (zR 18 0), some (zJ x1), none, some (zI x3), some (zI x4), u5], [zJ 255, zJ (x1 % 18446744073709551616 / 2 ^ (8 * x4).toNat)], M, cl)) rfl ?_
    refine zT.chk (t := (105, [some (zR 18 0), some (zJ x1), none, some (zI x3), some (zI x4), u5], [zJ ((x1 % 18446744073709551616 / 2 ^ (8 * x4).toNat) % 256)], M, cl)) rfl (by first | decide | (dsimp only; decide)) ?_
    refine zT.it 3 (t := (110, [some (zR 18 0), some (zJ x1), none, some (zI x3), some (zI x4), some (zI ((x1 % 18446744073709551616 / 2 ^ (8 * x4).toNat) % 256))], [zI ((x1 % 18446744073709551616 / 2 ^ (8 * x4).toNat) % 256)], M, cl)) rfl ?_
    refine zT.br (g := zr ((x1 % 18446744073709551616 / 2 ^ (8 * x4).toNat) % 256)) (p := ((x1 % 18446744073709551616 / 2 ^ (8 * x4).toNat) % 256) = 0) (t := (135, [some (zR 18 0), some (zJ x1), none, some (zI x3), some (zI x4), some (zI ((x1 % 18446744073709551616 / 2 ^ (8 * x4).toNat) % 256))], [], M, cl)) (u := (113, [some (zR 18 0), some (zJ x1), none, some (zI x3), some (zI x4), some (zI ((x1 % 18446744073709551616 / 2 ^ (8 * x4).toNat) % 256))], [], M, cl)) rfl h.1 (fun c => ?_) (fun c => ?_)
    · replace h := h.2.1 c
      refine zT.it 2 (t := (87, [some (zR 18 0), some (zJ x1), none, some (zI x3), some (zI (x4 + 1)), some (zI ((x1 % 18446744073709551616 / 2 ^ (8 * x4).toNat) % 256))], [], M, cl)) rfl ?_
      exact h
    · replace h := h.2.2 c
      refine zT.it 5 (t := (123, [some (zR 18 0), some (zJ x1), none, some (zI x3), some (zI x4), some (zI ((x1 % 18446744073709551616 / 2 ^ (8 * x4).toNat) % 256))], [zI ((x1 % 18446744073709551616 / 2 ^ (8 * x4).toNat) % 256), zI (M.1 18 0 2), zR 19 0], M, cl)) rfl ?_
      refine zT.chk (p := 0 ≤ ((x1 % 18446744073709551616 / 2 ^ (8 * x4).toNat) % 256) ∧ ((x1 % 18446744073709551616 / 2 ^ (8 * x4).toNat) % 256) ≤ 65535) (t := (124, [some (zR 18 0), some (zJ x1), none, some (zI x3), some (zI x4), some (zI ((x1 % 18446744073709551616 / 2 ^ (8 * x4).toNat) % 256))], [zI ((x1 % 18446744073709551616 / 2 ^ (8 * x4).toNat) % 256), zI (M.1 18 0 2), zR 19 0], M, cl)) rfl h.1 ?_
      replace h := h.2
      refine zT.chk (p := z_wi (M.1 18 0 2) 80 ∧ 0 ≤ ((x1 % 18446744073709551616 / 2 ^ (8 * x4).toNat) % 256) ∧ ((x1 % 18446744073709551616 / 2 ^ (8 * x4).toNat) % 256) ≤ 65535) (t := (125, [some (zR 18 0), some (zJ x1), none, some (zI x3), some (zI x4), some (zI ((x1 % 18446744073709551616 / 2 ^ (8 * x4).toNat) % 256))], [], (z_w M 19 0 ((M.1 18 0 2).toNat) ((x1 % 18446744073709551616 / 2 ^ (8 * x4).toNat) % 256)), false)) rfl h.1 ?_
      replace h := h.2
      refine zT.it 8 (t := (87, [some (zR 18 0), some (zJ x1), none, some (zI x3), some (zI (x4 + 1)), some (zI ((x1 % 18446744073709551616 / 2 ^ (8 * x4).toNat) % 256))], [], (z_w (z_w M 19 0 ((M.1 18 0 2).toNat) ((x1 % 18446744073709551616 / 2 ^ (8 * x4).toNat) % 256)) 18 0 2 ((M.1 18 0 2) + 1)), false)) rfl ?_
      exact h
theorem g4_0 {M : zM} {Q : zQ} (h : Q (.inl (some (zI (M.1 1 0 1)))) (z_w M 1 0 1 0) false 0) : zT 4 (0, [some (zR 1 0), none], [], M, true) Q := by
  refine zT.it 7 (t := (11, [some (zR 1 0), some (zI (M.1 1 0 1))], [zI (M.1 1 0 1)], (z_w M 1 0 1 0), false)) rfl ?_
  exact zT.ret (v := some (zI (M.1 1 0 1))) rfl (by first | exact trivial | decide) h
theorem g5_0 {M : zM} {Q : zQ} (h : zF 4 [zR 1 0] M (fun v M1 => ∃ r1 : Int, v = some (zI r1) ∧ ∀ cl1 : Bool, Q (.inl (some (zI r1))) M1 cl1 0)) : zT 5 (0, [some (zR 0 0)], [], M, true) Q := by
  refine zT.it 2 (t := (4, [some (zR 0 0)], [zR 1 0], M, true)) rfl ?_
  refine zT.call (m := 4) (as := [zR 1 0]) (M := M) (L := [some (zR 0 0)]) (st := []) (pn := 7) (cl := true) rfl ?_
  refine zF.mono h (fun v M1 h cl1 => ?_)
  obtain ⟨r1, e1, h⟩ := h; subst e1; replace h := h cl1
  show zT 5 (7, [some (zR 0 0)], [zI r1], M1, cl1) _
  exact zT.ret (v := some (zI r1)) rfl (by first | exact trivial | decide) h
theorem g6_0 {M : zM} {Q : zQ} (h : Q (.inl (some (zI (M.1 18 0 2)))) (z_w (z_w M 18 0 1 0) 18 0 2 0) false 0) : zT 6 (0, [some (zR 18 0), none], [], M, true) Q := by
  refine zT.it 10 (t := (16, [some (zR 18 0), some (zI (M.1 18 0 2))], [zI (M.1 18 0 2)], (z_w (z_w M 18 0 1 0) 18 0 2 0), false)) rfl ?_
  exact zT.ret (v := some (zI (M.1 18 0 2))) rfl (by first | exact trivial | decide) h
theorem g7_0 {M : zM} {Q : zQ} (h : (zr (M.1 0 0 9)) ∧ (((M.1 0 0 9) = 0 → Q (.inr 0) M true 1) ∧ (¬ ((M.1 0 0 9) = 0) → (zr (M.1 0 0 10)) ∧ (((M.1 0 0 10) = 0 → Q (.inl none) M true 0) ∧ (¬ ((M.1 0 0 10) = 0) → Q (.inr 0) M true 1))))) : zT 7 (0, [some (zR 0 0)], [], M, true) Q := by
  refine zT.it 2 (t := (4, [some (zR 0 0)], [zI (M.1 0 0 9)], M, true)) rfl ?_
  refine zT.br (g := zr (M.1 0 0 9)) (p := (M.1 0 0 9) = 0) (t := (14, [some (zR 0 0)], [], M, true)) (u := (7, [some (zR 0 0)], [], M, true)) rfl h.1 (fun c => ?_) (fun c => ?_)
  · replace h := h.2.1 c
    exact zT.thr (x := 0) rfl h
  · replace h := h.2.2 c
    refine zT.it 2 (t := (11, [some (zR 0 0)], [zI (M.1 0 0 10)], M, true)) rfl ?_
    refine zT.br (g := zr (M.1 0 0 10)) (p := (M.1 0 0 10) = 0) (t := (24, [some (zR 0 0)], [], M, true)) (u := (14, [some (zR 0 0)], [], M, true)) rfl h.1 (fun c => ?_) (fun c => ?_)
    · replace h := h.2.1 c
      exact zT.ret (v := none) rfl trivial h
    · replace h := h.2.2 c
      exact zT.thr (x := 0) rfl h
theorem g8_0 {a1 : Int} {M : zM} {Q : zQ} (h : (zr a1) ∧ ((a1 < 0 → Q (.inl (some (zI 0))) M true 0) ∧ (¬ (a1 < 0) → (zr a1 ∧ zr (M.1 1 0 1)) ∧ (((M.1 1 0 1) ≤ a1 → Q (.inl (some (zI 0))) M true 0) ∧ (¬ ((M.1 1 0 1) ≤ a1) → (z_wi a1 80) ∧ ((0 ≤ (M.1 2 0 a1.toNat) ∧ (M.1 2 0 a1.toNat) ≤ 65535) ∧ Q (.inl (some (zI (M.1 2 0 a1.toNat)))) M true 0)))))) : zT 8 (0, [some (zR 1 0), some (zI a1)], [], M, true) Q := by
  refine zT.it 1 (t := (1, [some (zR 1 0), some (zI a1)], [zI a1], M, true)) rfl ?_
  refine zT.br (g := zr a1) (p := a1 < 0) (t := (21, [some (zR 1 0), some (zI a1)], [], M, true)) (u := (4, [some (zR 1 0), some (zI a1)], [], M, true)) rfl h.1 (fun c => ?_) (fun c => ?_)
  · replace h := h.2.1 c
    refine zT.it 1 (t := (22, [some (zR 1 0), some (zI a1)], [zI 0], M, true)) rfl ?_
    exact zT.ret (v := some (zI 0)) rfl (by first | exact trivial | decide) h
  · replace h := h.2.2 c
    refine zT.it 3 (t := (9, [some (zR 1 0), some (zI a1)], [zI (M.1 1 0 1), zI a1], M, true)) rfl ?_
    refine zT.br (g := zr a1 ∧ zr (M.1 1 0 1)) (p := (M.1 1 0 1) ≤ a1) (t := (21, [some (zR 1 0), some (zI a1)], [], M, true)) (u := (12, [some (zR 1 0), some (zI a1)], [], M, true)) rfl h.1 (fun c => ?_) (fun c => ?_)
    · replace h := h.2.1 c
      refine zT.it 1 (t := (22, [some (zR 1 0), some (zI a1)], [zI 0], M, true)) rfl ?_
      exact zT.ret (v := some (zI 0)) rfl (by first | exact trivial | decide) h
    · replace h := h.2.2 c
      refine zT.it 3 (t := (17, [some (zR 1 0), some (zI a1)], [zI a1, zR 2 0], M, true)) rfl ?_
      refine zT.chk (p := z_wi a1 80) (t := (18, [some (zR 1 0), some (zI a1)], [zI (M.1 2 0 a1.toNat)], M, true)) rfl h.1 ?_
      replace h := h.2
      refine zT.it 1 (t := (22, [some (zR 1 0), some (zI a1)], [zI (M.1 2 0 a1.toNat)], M, true)) rfl ?_
      exact zT.ret (p := 0 ≤ (M.1 2 0 a1.toNat) ∧ (M.1 2 0 a1.toNat) ≤ 65535) (v := some (zI (M.1 2 0 a1.toNat))) rfl h.1 h.2
theorem g9_0 {a1 : Int} {M : zM} {Q : zQ} (h : zT 9 (2, [some (zR 1 0), some (zI a1), some (zI a1)], [], M, true) Q) : zT 9 (0, [some (zR 1 0), some (zI a1), none], [], M, true) Q := by
  refine zT.it 2 (t := (2, [some (zR 1 0), some (zI a1), some (zI a1)], [], M, true)) rfl ?_
  exact h
theorem g9_2 {x1 : Int} {x2 : Int} {M : zM} {cl : Bool} {Q : zQ} (h : (zr x2 ∧ zr (M.1 1 0 1)) ∧ (((M.1 1 0 1) ≤ x2 → Q (.inl (some (zI x2))) M cl 0) ∧ (¬ ((M.1 1 0 1) ≤ x2) → zF 8 [zR 1 0, zI x2] M (fun v M1 => ∃ r1 : Int, v = some (zI r1) ∧ ∀ cl1 : Bool, (zr r1 ∧ zr 32) ∧ ((¬ r1 = 32 → Q (.inl (some (zI x2))) M1 cl1 0) ∧ (r1 = 32 → zT 9 (2, [some (zR 1 0), some (zI x1), some (zI (x2 + 1))], [], M1, cl1) Q)))))) : zT 9 (2, [some (zR 1 0), some (zI x1), some (zI x2)], [], M, cl) Q := by
  refine zT.it 3 (t := (7, [some (zR 1 0), some (zI x1), some (zI x2)], [zI (M.1 1 0 1), zI x2], M, cl)) rfl ?_
  refine zT.br (g := zr x2 ∧ zr (M.1 1 0 1)) (p := (M.1 1 0 1) ≤ x2) (t := (26, [some (zR 1 0), some (zI x1), some (zI x2)], [], M, cl)) (u := (10, [some (zR 1 0), some (zI x1), some (zI x2)], [], M, cl)) rfl h.1 (fun c => ?_) (fun c => ?_)
  · replace h := h.2.1 c
    refine zT.it 1 (t := (27, [some (zR 1 0), some (zI x1), some (zI x2)], [zI x2], M, cl)) rfl ?_
    exact zT.ret (v := some (zI x2)) rfl (by first | exact trivial | decide) h
  · replace h := h.2.2 c
    refine zT.it 2 (t := (12, [some (zR 1 0), some (zI x1), some (zI x2)], [zI x2, zR 1 0], M, cl)) rfl ?_
    refine zT.call (m := 8) (as := [zR 1 0, zI x2]) (M := M) (L := [some (zR 1 0), some (zI x1), some (zI x2)]) (st := []) (pn := 15) (cl := cl) rfl ?_
    refine zF.mono h (fun v M1 h cl1 => ?_)
    obtain ⟨r1, e1, h⟩ := h; subst e1; replace h := h cl1
    show zT 9 (15, [some (zR 1 0), some (zI x1), some (zI x2)], [zI r1], M1, cl1) _
    refine zT.it 1 (t := (17, [some (zR 1 0), some (zI x1), some (zI x2)], [zI 32, zI r1], M1, cl1)) rfl ?_
    refine zT.br (g := zr r1 ∧ zr 32) (p := ¬ r1 = 32) (t := (26, [some (zR 1 0), some (zI x1), some (zI x2)], [], M1, cl1)) (u := (20, [some (zR 1 0), some (zI x1), some (zI x2)], [], M1, cl1)) rfl h.1 (fun c => ?_) (fun c => ?_)
    · replace h := h.2.1 c
      refine zT.it 1 (t := (27, [some (zR 1 0), some (zI x1), some (zI x2)], [zI x2], M1, cl1)) rfl ?_
      exact zT.ret (v := some (zI x2)) rfl (by first | exact trivial | decide) h
    · replace h := h.2.2 (Decidable.not_not.1 c)
      refine zT.it 2 (t := (2, [some (zR 1 0), some (zI x1), some (zI (x2 + 1))], [], M1, cl1)) rfl ?_
      exact h
theorem g10_0 {a1 : Int} {M : zM} {Q : zQ} (h : (zr a1 ∧ zr 65) ∧ ((a1 < 65 → Q (.inl (some (zI 0))) M true 0) ∧ (¬ (a1 < 65) → (zr a1 ∧ zr 90) ∧ ((90 < a1 → Q (.inl (some (zI 0))) M true 0) ∧ (¬ (90 < a1) → Q (.inl (some (zI 1))) M true 0))))) : zT 10 (0, [some (zI a1)], [], M, true) Q := by
  refine zT.it 2 (t := (3, [some (zI a1)], [zI 65, zI a1], M, true)) rfl ?_
  refine zT.br (g := zr a1 ∧ zr 65) (p := a1 < 65) (t := (16, [some (zI a1)], [], M, true)) (u := (6, [some (zI a1)], [], M, true)) rfl h.1 (fun c => ?_) (fun c => ?_)
  · replace h := h.2.1 c
    refine zT.it 1 (t := (17, [some (zI a1)], [zI 0], M, true)) rfl ?_
    exact zT.ret (v := some (zI 0)) rfl (by first | exact trivial | decide) h
  · replace h := h.2.2 c
    refine zT.it 2 (t := (9, [some (zI a1)], [zI 90, zI a1], M, true)) rfl ?_
    refine zT.br (g := zr a1 ∧ zr 90) (p := 90 < a1) (t := (16, [some (zI a1)], [], M, true)) (u := (12, [some (zI a1)], [], M, true)) rfl h.1 (fun c => ?_) (fun c => ?_)
    · replace h := h.2.1 c
      refine zT.it 1 (t := (17, [some (zI a1)], [zI 0], M, true)) rfl ?_
      exact zT.ret (v := some (zI 0)) rfl (by first | exact trivial | decide) h
    · replace h := h.2.2 c
      refine zT.it 2 (t := (17, [some (zI a1)], [zI 1], M, true)) rfl ?_
      exact zT.ret (v := some (zI 1)) rfl (by first | exact trivial | decide) h
theorem g11_0 {a1 : Int} {a2 : Int} {M : zM} {Q : zQ} (h : zT 11 (2, [some (zR 1 0), some (zI a1), some (zI a2), some (zI a1)], [], M, true) Q) : zT 11 (0, [some (zR 1 0), some (zI a1), some (zI a2), none], [], M, true) Q := by
  refine zT.it 2 (t := (2, [some (zR 1 0), some (zI a1), some (zI a2), some (zI a1)], [], M, true)) rfl ?_
  exact h
theorem g11_2 {x1 : Int} {x2 : Int} {x3 : Int} {M : zM} {cl : Bool} {Q : zQ} (h : (zr x3 ∧ zr (x1 + x2)) ∧ (((x1 + x2) ≤ x3 → Q (.inl (some (zI x3))) M cl 0) ∧ (¬ ((x1 + x2) ≤ x3) → zF 8 [zR 1 0, zI x3] M (fun v M1 => ∃ r1 : Int, v = some (zI r1) ∧ ∀ cl1 : Bool, (zr r1 ∧ zr 48) ∧ ((r1 < 48 → Q (.inl (some (zI x3))) M1 cl1 0) ∧ (¬ (r1 < 48) → zF 8 [zR 1 0, zI x3] M1 (fun v M2 => ∃ r2 : Int, v = some (zI r2) ∧ ∀ cl2 : Bool, (zr r2 ∧ zr 57) ∧ ((57 < r2 → Q (.inl (some (zI x3))) M2 cl2 0) ∧ (¬ (57 < r2) → zT 11 (2, [some (zR 1 0), some (zI x1), some (zI x2), some (zI (x3 + 1))], [], M2, cl2) Q))))))))) : zT 11 (2, [some (zR 1 0), some (zI x1), some (zI x2), some (zI x3)], [], M, cl) Q := by
  refine zT.it 4 (t := (6, [some (zR 1 0), some (zI x1), some (zI x2), some (zI x3)], [zI (x1 + x2), zI x3], M, cl)) rfl ?_
  refine zT.br (g := zr x3 ∧ zr (x1 + x2)) (p := (x1 + x2) ≤ x3) (t := (35, [some (zR 1 0), some (zI x1), some (zI x2), some (zI x3)], [], M, cl)) (u := (9, [some (zR 1 0), some (zI x1), some (zI x2), some (zI x3)], [], M, cl)) rfl h.1 (fun c => ?_) (fun c => ?_)
  · replace h := h.2.1 c
    refine zT.it 1 (t := (36, [some (zR 1 0), some (zI x1), some (zI x2), some (zI x3)], [zI x3], M, cl)) rfl ?_
    exact zT.ret (v := some (zI x3)) rfl (by first | exact trivial | decide) h
  · replace h := h.2.2 c
    refine zT.it 2 (t := (11, [some (zR 1 0), some (zI x1), some (zI x2), some (zI x3)], [zI x3, zR 1 0], M, cl)) rfl ?_
    refine zT.call (m := 8) (as := [zR 1 0, zI x3]) (M := M) (L := [some (zR 1 0), some (zI x1), some (zI x2), some (zI x3)]) (st := []) (pn := 14) (cl := cl) rfl ?_
    refine zF.mono h (fun v M1 h cl1 => ?_)
    obtain ⟨r1, e1, h⟩ := h; subst e1; replace h := h cl1
    show zT 11 (14, [some (zR 1 0), some (zI x1), some (zI x2), some (zI x3)], [zI r1], M1, cl1) _
    refine zT.it 1 (t := (16, [some (zR 1 0), some (zI x1), some (zI x2), some (zI x3)], [zI 48, zI r1], M1, cl1)) rfl ?_
    refine zT.br (g := zr r1 ∧ zr 48) (p := r1 < 48) (t := (35, [some (zR 1 0), some (zI x1), some (zI x2), some (zI x3)], [], M1, cl1)) (u := (19, [some (zR 1 0), some (zI x1), some (zI x2), some (zI x3)], [], M1, cl1)) rfl h.1 (fun c => ?_) (fun c => ?_)
    · replace h := h.2.1 c
      refine zT.it 1 (t := (36, [some (zR 1 0), some (zI x1), some (zI x2), some (zI x3)], [zI x3], M1, cl1)) rfl ?_
      exact zT.ret (v := some (zI x3)) rfl (by first | exact trivial | decide) h
    · replace h := h.2.2 c
      refine zT.it 2 (t := (21, [some (zR 1 0), some (zI x1), some (zI x2), some (zI x3)], [zI x3, zR 1 0], M1, cl1)) rfl ?_
      refine zT.call (m := 8) (as := [zR 1 0, zI x3]) (M := M1) (L := [some (zR 1 0), some (zI x1), some (zI x2), some (zI x3)]) (st := []) (pn := 24) (cl := cl1) rfl ?_
      refine zF.mono h (fun v M2 h cl2 => ?_)
      obtain ⟨r2, e2, h⟩ := h; subst e2; replace h := h cl2
      show zT 11 (24, [some (zR 1 0), some (zI x1), some (zI x2), some (zI x3)], [zI r2], M2, cl2) _
      refine zT.it 1 (t := (26, [some (zR 1 0), some (zI x1), some (zI x2), some (zI x3)], [zI 57, zI r2], M2, cl2)) rfl ?_
      refine zT.br (g := zr r2 ∧ zr 57) (p := 57 < r2) (t := (35, [some (zR 1 0), some (zI x1), some (zI x2), some (zI x3)], [], M2, cl2)) (u := (29, [some (zR 1 0), some (zI x1), some (zI x2), some (zI x3)], [], M2, cl2)) rfl h.1 (fun c => ?_) (fun c => ?_)
      · replace h := h.2.1 c
        refine zT.it 1 (t := (36, [some (zR 1 0), some (zI x1), some (zI x2), some (zI x3)], [zI x3], M2, cl2)) rfl ?_
        exact zT.ret (v := some (zI x3)) rfl (by first | exact trivial | decide) h
      · replace h := h.2.2 c
        refine zT.it 2 (t := (2, [some (zR 1 0), some (zI x1), some (zI x2), some (zI (x3 + 1))], [], M2, cl2)) rfl ?_
        exact h
theorem g12_0 {a1 : Int} {a2 : Int} {M : zM} {Q : zQ} (h : zT 12 (5, [some (zR 1 0), some (zI a1), some (zI a2), some (zI 0), some (zI a1)], [], M, true) Q) : zT 12 (0, [some (zR 1 0), some (zI a1), some (zI a2), none, none], [], M, true) Q := by
  refine zT.it 4 (t := (5, [some (zR 1 0), some (zI a1), some (zI a2), some (zI 0), some (zI a1)], [], M, true)) rfl ?_
  exact h
theorem g12_5 {x1 : Int} {x2 : Int} {x3 : Int} {x4 : Int} {M : zM} {cl : Bool} {Q : zQ} (h : (zr x4 ∧ zr x2) ∧ ((x2 ≤ x4 → Q (.inl (some (zI x3))) M cl 0) ∧ (¬ (x2 ≤ x4) → zF 8 [zR 1 0, zI x4] M (fun v M1 => ∃ r1 : Int, v = some (zI r1) ∧ ∀ cl1 : Bool, zT 12 (5, [some (zR 1 0), some (zI x1), some (zI x2), some (zI ((x3 * 10) + (r1 - 48))), some (zI (x4 + 1))], [], M1, cl1) Q)))) : zT 12 (5, [some (zR 1 0), some (zI x1), some (zI x2), some (zI x3), some (zI x4)], [], M, cl) Q := by
  refine zT.it 2 (t := (8, [some (zR 1 0), some (zI x1), some (zI x2), some (zI x3), some (zI x4)], [zI x2, zI x4], M, cl)) rfl ?_
  refine zT.br (g := zr x4 ∧ zr x2) (p := x2 ≤ x4) (t := (32, [some (zR 1 0), some (zI x1), some (zI x2), some (zI x3), some (zI x4)], [], M, cl)) (u := (11, [some (zR 1 0), some (zI x1), some (zI x2), some (zI x3), some (zI x4)], [], M, cl)) rfl h.1 (fun c => ?_) (fun c => ?_)
  · replace h := h.2.1 c
    refine zT.it 1 (t := (33, [some (zR 1 0), some (zI x1), some (zI x2), some (zI x3), some (zI x4)], [zI x3], M, cl)) rfl ?_
    exact zT.ret (v := some (zI x3)) rfl (by first | exact trivial | decide) h
  · replace h := h.2.2 c
    refine zT.it 5 (t := (18, [some (zR 1 0), some (zI x1), some (zI x2), some (zI x3), some (zI x4)], [zI x4, zR 1 0, zI (x3 * 10)], M, cl)) rfl ?_
    refine zT.call (m := 8) (as := [zR 1 0, zI x4]) (M := M) (L := [some (zR 1 0), some (zI x1), some (zI x2), some (zI x3), some (zI x4)]) (st := [zI (x3 * 10)]) (pn := 21) (cl := cl) rfl ?_
    refine zF.mono h (fun v M1 h cl1 => ?_)
    obtain ⟨r1, e1, h⟩ := h; subst e1; replace h := h cl1
    show zT 12 (21, [some (zR 1 0), some (zI x1), some (zI x2), some (zI x3), some (zI x4)], [zI r1, zI (x3 * 10)], M1, cl1) _
    refine zT.it 6 (t := (5, [some (zR 1 0), some (zI x1), some (zI x2), some (zI ((x3 * 10) + (r1 - 48))), some (zI (x4 + 1))], [], M1, cl1)) rfl ?_
    exact h
theorem g13_0 {a2 : Int} {M : zM} {Q : zQ} (h : zF 8 [zR 1 0, zI a2] M (fun v M1 => ∃ r1 : Int, v = some (zI r1) ∧ ∀ cl1 : Bool, zF 8 [zR 1 0, zI (a2 + 1)] M1 (fun v M2 => ∃ r2 : Int, v = some (zI r2) ∧ ∀ cl2 : Bool, (zr r2 ∧ zr 45) ∧ ((¬ r2 = 45 → (zr (M2.1 3 0 2)) ∧ ((¬ (M2.1 3 0 2) = 0 → zF 11 [zR 1 0, zI (a2 + 1), zI 5] M2 (fun v M3 => ∃ r3 : Int, v = some (zI r3) ∧ ∀ cl3 : Bool, (zr r3 ∧ zr (a2 + 1)) ∧ ((r3 = (a2 + 1) → Q (.inl (some (zI (-1)))) M3 cl3 0) ∧ (¬ (r3 = (a2 + 1)) → (zr (M3.1 3 0 2) ∧ zr 40) ∧ (((M3.1 3 0 2) < 40 → zF 12 [zR 1 0, zI (a2 + 1), zI r3] M3 (fun v M4 => ∃ r4 : Int, v = some (zI r4) ∧ ∀ cl4 : Bool, (z_wi (M4.1 3 0 2) 40 ∧ 0 ≤ r1 ∧ r1 ≤ 65535) ∧ ((z_wi (M4.1 3 0 2) 40) ∧ (Q (.inl (some (zI r3))) (z_w (z_w (z_w M4 4 0 ((M4.1 3 0 2).toNat) r1) 5 0 ((M4.1 3 0 2).toNat) r4) 3 0 2 ((M4.1 3 0 2) + 1)) false 0)))) ∧ (¬ ((M3.1 3 0 2) < 40) → Q (.inl (some (zI (-1)))) M3 cl3 0)))))) ∧ ((M2.1 3 0 2) = 0 → (zr r1 ∧ zr 78) ∧ ((¬ r1 = 78 → Q (.inl (some (zI (-1)))) M2 cl2 0) ∧ (r1 = 78 → zF 11 [zR 1 0, zI (a2 + 1), zI 5] M2 (fun v M5 => ∃ r5 : Int, v = some (zI r5) ∧ ∀ cl5 : Bool, (zr r5 ∧ zr (a2 + 1)) ∧ ((r5 = (a2 + 1) → Q (.inl (some (zI (-1)))) M5 cl5 0) ∧ (¬ (r5 = (a2 + 1)) → (zr (M5.1 3 0 2) ∧ zr 40) ∧ (((M5.1 3 0 2) < 40 → zF 12 [zR 1 0, zI (a2 + 1), zI r5] M5 (fun v M6 => ∃ r6 : Int, v = some (zI r6) ∧ ∀ cl6 : Bool, (z_wi (M6.1 3 0 2) 40 ∧ 0 ≤ r1 ∧ r1 ≤ 65535) ∧ ((z_wi (M6.1 3 0 2) 40) ∧ (Q (.inl (some (zI r5))) (z_w (z_w (z_w M6 4 0 ((M6.1 3 0 2).toNat) r1) 5 0 ((M6.1 3 0 2).toNat) r6) 3 0 2 ((M6.1 3 0 2) + 1)) false 0)))) ∧ (¬ ((M5.1 3 0 2) < 40) → Q (.inl (some (zI (-1)))) M5 cl5 0)))))))))) ∧ (r2 = 45 → (zr (M2.1 3 0 2)) ∧ ((¬ (M2.1 3 0 2) = 0 → zF 11 [zR 1 0, zI (a2 + 2), zI 5] M2 (fun v M7 => ∃ r7 : Int, v = some (zI r7) ∧ ∀ cl7 : Bool, (zr r7 ∧ zr (a2 + 2)) ∧ ((r7 = (a2 + 2) → Q (.inl (some (zI (-1)))) M7 cl7 0) ∧ (¬ (r7 = (a2 + 2)) → (zr (M7.1 3 0 2) ∧ zr 40) ∧ (((M7.1 3 0 2) < 40 → zF 12 [zR 1 0, zI (a2 + 2), zI r7] M7 (fun v M8 => ∃ r8 : Int, v = some (zI r8) ∧ ∀ cl8 : Bool, (z_wi (M8.1 3 0 2) 40 ∧ 0 ≤ r1 ∧ r1 ≤ 65535) ∧ ((z_wi (M8.1 3 0 2) 40) ∧ (Q (.inl (some (zI r7))) (z_w (z_w (z_w M8 4 0 ((M8.1 3 0 2).toNat) r1) 5 0 ((M8.1 3 0 2).toNat) (-r8)) 3 0 2 ((M8.1 3 0 2) + 1)) false 0)))) ∧ (¬ ((M7.1 3 0 2) < 40) → Q (.inl (some (zI (-1)))) M7 cl7 0)))))) ∧ ((M2.1 3 0 2) = 0 → (zr r1 ∧ zr 78) ∧ ((¬ r1 = 78 → Q (.inl (some (zI (-1)))) M2 cl2 0) ∧ (r1 = 78 → Q (.inl (some (zI (-1)))) M2 cl2 0))))))))) : zT 13 (0, [some (zR 3 0), some (zR 1 0), some (zI a2), none, none, none, none, none], [], M, true) Q := by
  refine zT.it 2 (t := (2, [some (zR 3 0), some (zR 1 0), some (zI a2), none, none, none, none, none], [zI a2, zR 1 0], M, true)) rfl ?_
  refine zT.call (m := 8) (as := [zR 1 0, zI a2]) (M := M) (L := [some (zR 3 0), some (zR 1 0), some (zI a2), none, none, none, none, none]) (st := []) (pn := 5) (cl := true) rfl ?_
  refine zF.mono h (fun v M1 h cl1 => ?_)
  obtain ⟨r1, e1, h⟩ := h; subst e1; replace h := h cl1
  show zT 13 (5, [some (zR 3 0), some (zR 1 0), some (zI a2), none, none, none, none, none], [zI r1], M1, cl1) _
  refine zT.it 5 (t := (10, [some (zR 3 0), some (zR 1 0), some (zI a2), some (zI r1), none, none, none, none], [zI (a2 + 1), zR 1 0], M1, cl1)) rfl ?_
  refine zT.call (m := 8) (as := [zR 1 0, zI (a2 + 1)]) (M := M1) (L := [some (zR 3 0), some (zR 1 0), some (zI a2), some (zI r1), none, none, none, none]) (st := []) (pn := 13) (cl := cl1) rfl ?_
  refine zF.mono h (fun v M2 h cl2 => ?_)
  obtain ⟨r2, e2, h⟩ := h; subst e2; replace h := h cl2
  show zT 13 (13, [some (zR 3 0), some (zR 1 0), some (zI a2), some (zI r1), none, none, none, none], [zI r2], M2, cl2) _
  refine zT.it 1 (t := (15, [some (zR 3 0), some (zR 1 0), some (zI a2), some (zI r1), none, none, none, none], [zI 45, zI r2], M2, cl2)) rfl ?_
  refine zT.br (g := zr r2 ∧ zr 45) (p := ¬ r2 = 45) (t := (22, [some (zR 3 0), some (zR 1 0), some (zI a2), some (zI r1), none, none, none, none], [], M2, cl2)) (u := (18, [some (zR 3 0), some (zR 1 0), some (zI a2), some (zI r1), none, none, none, none], [], M2, cl2)) rfl h.1 (fun c => ?_) (fun c => ?_)
  · replace h := h.2.1 c
    refine zT.it 4 (t := (29, [some (zR 3 0), some (zR 1 0), some (zI a2), some (zI r1), some (zI 0), none, none, none], [zI (M2.1 3 0 2)], M2, cl2)) rfl ?_
    refine zT.br (g := zr (M2.1 3 0 2)) (p := ¬ (M2.1 3 0 2) = 0) (t := (45, [some (zR 3 0), some (zR 1 0), some (zI a2), some (zI r1), some (zI 0), none, none, none], [], M2, cl2)) (u := (32, [some (zR 3 0), some (zR 1 0), some (zI a2), some (zI r1), some (zI 0), none, none, none], [], M2, cl2)) rfl h.1 (fun c => ?_) (fun c => ?_)
    · replace h := h.2.1 c
      refine zT.it 1 (t := (47, [some (zR 3 0), some (zR 1 0), some (zI a2), some (zI r1), some (zI 0), none, none, none], [zI 0], M2, cl2)) rfl ?_
      refine zT.br (g := zr 0) (p := 0 = 0) (t := (56, [some (zR 3 0), some (zR 1 0), some (zI a2), some (zI r1), some (zI 0), none, none, none], [], M2, cl2)) (u := (50, [some (zR 3 0), some (zR 1 0), some (zI a2), some (zI r1), some (zI 0), none, none, none], [], M2, cl2)) rfl (by decide) (fun c => ?_) (fun c => absurd (by decide) c)
      refine zT.it 7 (t := (65, [some (zR 3 0), some (zR 1 0), some (zI a2), some (zI r1), some (zI 0), some (zI (a2 + 1)), none, none], [zI 5, zI (a2 + 1), zR 1 0], M2, cl2)) rfl ?_
      refine zT.call (m := 11) (as := [zR 1 0, zI (a2 + 1), zI 5]) (M := M2) (L := [some (zR 3 0), some (zR 1 0), some (zI a2), some (zI r1), some (zI 0), some (zI (a2 + 1)), none, none]) (st := []) (pn := 68) (cl := cl2) rfl ?_
      refine zF.mono h (fun v M3 h cl3 => ?_)
      obtain ⟨r3, e3, h⟩ := h; subst e3; replace h := h cl3
      show zT 13 (68, [some (zR 3 0), some (zR 1 0), some (zI a2), some (zI r1), some (zI 0), some (zI (a2 + 1)), none, none], [zI r3], M3, cl3) _
      refine zT.it 3 (t := (74, [some (zR 3 0), some (zR 1 0), some (zI a2), some (zI r1), some (zI 0), some (zI (a2 + 1)), some (zI r3), none], [zI (a2 + 1), zI r3], M3, cl3)) rfl ?_
      refine zT.br (g := zr r3 ∧ zr (a2 + 1)) (p := r3 = (a2 + 1)) (t := (86, [some (zR 3 0), some (zR 1 0), some (zI a2), some (zI r1), some (zI 0), some (zI (a2 + 1)), some (zI r3), none], [], M3, cl3)) (u := (77, [some (zR 3 0), some (zR 1 0), some (zI a2), some (zI r1), some (zI 0), some (zI (a2 + 1)), some (zI r3), none], [], M3, cl3)) rfl h.1 (fun c => ?_) (fun c => ?_)
      · replace h := h.2.1 c
        refine zT.it 1 (t := (87, [some (zR 3 0), some (zR 1 0), some (zI a2), some (zI r1), some (zI 0), some (zI (a2 + 1)), some (zI r3), none], [zI (-1)], M3, cl3)) rfl ?_
        exact zT.ret (v := some (zI (-1))) rfl (by first | exact trivial | decide) h
      · replace h := h.2.2 c
        refine zT.it 3 (t := (83, [some (zR 3 0), some (zR 1 0), some (zI a2), some (zI r1), some (zI 0), some (zI (a2 + 1)), some (zI r3), none], [zI 40, zI (M3.1 3 0 2)], M3, cl3)) rfl ?_
        refine zT.br (g := zr (M3.1 3 0 2) ∧ zr 40) (p := (M3.1 3 0 2) < 40) (t := (88, [some (zR 3 0), some (zR 1 0), some (zI a2), some (zI r1), some (zI 0), some (zI (a2 + 1)), some (zI r3), none], [], M3, cl3)) (u := (86, [some (zR 3 0), some (zR 1 0), some (zI a2), some (zI r1), some (zI 0), some (zI (a2 + 1)), some (zI r3), none], [], M3, cl3)) rfl h.1 (fun c => ?_) (fun c => ?_)
        · replace h := h.2.1 c
          refine zT.it 3 (t := (93, [some (zR 3 0), some (zR 1 0), some (zI a2), some (zI r1), some (zI 0), some (zI (a2 + 1)), some (zI r3), none], [zI r3, zI (a2 + 1), zR 1 0], M3, cl3)) rfl ?_
          refine zT.call (m := 12) (as := [zR 1 0, zI (a2 + 1), zI r3]) (M := M3) (L := [some (zR 3 0), some (zR 1 0), some (zI a2), some (zI r1), some (zI 0), some (zI (a2 + 1)), some (zI r3), none]) (st := []) (pn := 96) (cl := cl3) rfl ?_
          refine zF.mono h (fun v M4 h cl4 => ?_)
          obtain ⟨r4, e4, h⟩ := h; subst e4; replace h := h cl4
          show zT 13 (96, [some (zR 3 0), some (zR 1 0), some (zI a2), some (zI r1), some (zI 0), some (zI (a2 + 1)), some (zI r3), none], [zI r4], M4, cl4) _
          refine zT.it 6 (t := (107, [some (zR 3 0), some (zR 1 0), some (zI a2), some (zI r1), some (zI 0), some (zI (a2 + 1)), some (zI r3), some (zI r4)], [zI r1, zI (M4.1 3 0 2), zR 4 0], M4, cl4)) rfl ?_
          refine zT.chk (p := z_wi (M4.1 3 0 2) 40 ∧ 0 ≤ r1 ∧ r1 ≤ 65535) (t := (108, [some (zR 3 0), some (zR 1 0), some (zI a2), some (zI r1), some (zI 0), some (zI (a2 + 1)), some (zI r3), some (zI r4)], [], (z_w M4 4 0 ((M4.1 3 0 2).toNat) r1), false)) rfl h.1 ?_
          replace h := h.2
          refine zT.it 5 (t := (118, [some (zR 3 0), some (zR 1 0), some (zI a2), some (zI r1), some (zI 0), some (zI (a2 + 1)), some (zI r3), some (zI r4)], [zI 0, zI (M4.1 3 0 2), zR 5 0], (z_w M4 4 0 ((M4.1 3 0 2).toNat) r1), false)) rfl ?_
          refine zT.br (g := zr 0) (p := 0 = 0) (t := (127, [some (zR 3 0), some (zR 1 0), some (zI a2), some (zI r1), some (zI 0), some (zI (a2 + 1)), some (zI r3), some (zI r4)], [zI (M4.1 3 0 2), zR 5 0], (z_w M4 4 0 ((M4.1 3 0 2).toNat) r1), false)) (u := (121, [some (zR 3 0), some (zR 1 0), some (zI a2), some (zI r1), some (zI 0), some (zI (a2 + 1)), some (zI r3), some (zI r4)], [zI (M4.1 3 0 2), zR 5 0], (z_w M4 4 0 ((M4.1 3 0 2).toNat) r1), false)) rfl (by decide) (fun c => ?_) (fun c => absurd (by decide) c)
          refine zT.it 1 (t := (129, [some (zR 3 0), some (zR 1 0), some (zI a2), some (zI r1), some (zI 0), some (zI (a2 + 1)), some (zI r3), some (zI r4)], [zI r4, zI (M4.1 3 0 2), zR 5 0], (z_w M4 4 0 ((M4.1 3 0 2).toNat) r1), false)) rfl ?_
          refine zT.chk (p := z_wi (M4.1 3 0 2) 40) (t := (130, [some (zR 3 0), some (zR 1 0), some (zI a2), some (zI r1), some (zI 0), some (zI (a2 + 1)), some (zI r3), some (zI r4)], [], (z_w (z_w M4 4 0 ((M4.1 3 0 2).toNat) r1) 5 0 ((M4.1 3 0 2).toNat) r4), false)) rfl h.1 ?_
          replace h := h.2
          refine zT.it 7 (t := (142, [some (zR 3 0), some (zR 1 0), some (zI a2), some (zI r1), some (zI 0), some (zI (a2 + 1)), some (zI r3), some (zI r4)], [zI r3], (z_w (z_w (z_w M4 4 0 ((M4.1 3 0 2).toNat) r1) 5 0 ((M4.1 3 0 2).toNat) r4) 3 0 2 ((M4.1 3 0 2) + 1)), false)) rfl ?_
          exact zT.ret (v := some (zI r3)) rfl (by first | exact trivial | decide) h
        · replace h := h.2.2 c
          refine zT.it 1 (t := (87, [some (zR 3 0), some (zR 1 0), some (zI a2), some (zI r1), some (zI 0), some (zI (a2 + 1)), some (zI r3), none], [zI (-1)], M3, cl3)) rfl ?_
          exact zT.ret (v := some (zI (-1))) rfl (by first | exact trivial | decide) h
    · replace h := h.2.2 (Decidable.not_not.1 c)
      refine zT.it 2 (t := (35, [some (zR 3 0), some (zR 1 0), some (zI a2), some (zI r1), some (zI 0), none, none, none], [zI 78, zI r1], M2, cl2)) rfl ?_
      refine zT.br (g := zr r1 ∧ zr 78) (p := ¬ r1 = 78) (t := (43, [some (zR 3 0), some (zR 1 0), some (zI a2), some (zI r1), some (zI 0), none, none, none], [], M2, cl2)) (u := (38, [some (zR 3 0), some (zR 1 0), some (zI a2), some (zI r1), some (zI 0), none, none, none], [], M2, cl2)) rfl h.1 (fun c => ?_) (fun c => ?_)
      · replace h := h.2.1 c
        refine zT.it 1 (t := (44, [some (zR 3 0), some (zR 1 0), some (zI a2), some (zI r1), some (zI 0), none, none, none], [zI (-1)], M2, cl2)) rfl ?_
        exact zT.ret (v := some (zI (-1))) rfl (by first | exact trivial | decide) h
      · replace h := h.2.2 (Decidable.not_not.1 c)
        refine zT.it 1 (t := (40, [some (zR 3 0), some (zR 1 0), some (zI a2), some (zI r1), some (zI 0), none, none, none], [zI 0], M2, cl2)) rfl ?_
        refine zT.br (g := zr 0) (p := 0 = 0) (t := (45, [some (zR 3 0), some (zR 1 0), some (zI a2), some (zI r1), some (zI 0), none, none, none], [], M2, cl2)) (u := (43, [some (zR 3 0), some (zR 1 0), some (zI a2), some (zI r1), some (zI 0), none, none, none], [], M2, cl2)) rfl (by decide) (fun c => ?_) (fun c => absurd (by decide) c)
        refine zT.it 1 (t := (47, [some (zR 3 0), some (zR 1 0), some (zI a2), some (zI r1), some (zI 0), none, none, none], [zI 0], M2, cl2)) rfl ?_
        refine zT.br (g := zr 0) (p := 0 = 0) (t := (56, [some (zR 3 0), some (zR 1 0), some (zI a2), some (zI r1), some (zI 0), none, none, none], [], M2, cl2)) (u := (50, [some (zR 3 0), some (zR 1 0), some (zI a2), some (zI r1), some (zI 0), none, none, none], [], M2, cl2)) rfl (by decide) (fun c => ?_) (fun c => absurd (by decide) c)
        refine zT.it 7 (t := (65, [some (zR 3 0), some (zR 1 0), some (zI a2), some (zI r1), some (zI 0), some (zI (a2 + 1)), none, none], [zI 5, zI (a2 + 1), zR 1 0], M2, cl2)) rfl ?_
        refine zT.call (m := 11) (as := [zR 1 0, zI (a2 + 1), zI 5]) (M := M2) (L := [some (zR 3 0), some (zR 1 0), some (zI a2), some (zI r1), some (zI 0), some (zI (a2 + 1)), none, none]) (st := []) (pn := 68) (cl := cl2) rfl ?_
        refine zF.mono h (fun v M5 h cl5 => ?_)
        obtain ⟨r5, e5, h⟩ := h; subst e5; replace h := h cl5
        show zT 13 (68, [some (zR 3 0), some (zR 1 0), some (zI a2), some (zI r1), some (zI 0), some (zI (a2 + 1)), none, none], [zI r5], M5, cl5) _
        refine zT.it 3 (t := (74, [some (zR 3 0), some (zR 1 0), some (zI a2), some (zI r1), some (zI 0), some (zI (a2 + 1)), some (zI r5), none], [zI (a2 + 1), zI r5], M5, cl5)) rfl ?_
        refine zT.br (g := zr r5 ∧ zr (a2 + 1)) (p := r5 = (a2 + 1)) (t := (86, [some (zR 3 0), some (zR 1 0), some (zI a2), some (zI r1), some (zI 0), some (zI (a2 + 1)), some (zI r5), none], [], M5, cl5)) (u := (77, [some (zR 3 0), some (zR 1 0), some (zI a2), some (zI r1), some (zI 0), some (zI (a2 + 1)), some (zI r5), none], [], M5, cl5)) rfl h.1 (fun c => ?_) (fun c => ?_)
        · replace h := h.2.1 c
          refine zT.it 1 (t := (87, [some (zR 3 0), some (zR 1 0), some (zI a2), some (zI r1), some (zI 0), some (zI (a2 + 1)), some (zI r5), none], [zI (-1)], M5, cl5)) rfl ?_
          exact zT.ret (v := some (zI (-1))) rfl (by first | exact trivial | decide) h
        · replace h := h.2.2 c
          refine zT.it 3 (t := (83, [some (zR 3 0), some (zR 1 0), some (zI a2), some (zI r1), some (zI 0), some (zI (a2 + 1)), some (zI r5), none], [zI 40, zI (M5.1 3 0 2)], M5, cl5)) rfl ?_
          refine zT.br (g := zr (M5.1 3 0 2) ∧ zr 40) (p := (M5.1 3 0 2) < 40) (t := (88, [some (zR 3 0), some (zR 1 0), some (zI a2), some (zI r1), some (zI 0), some (zI (a2 + 1)), some (zI r5), none], [], M5, cl5)) (u := (86, [some (zR 3 0), some (zR 1 0), some (zI a2), some (zI r1), some (zI 0), some (zI (a2 + 1)), some (zI r5), none], [], M5, cl5)) rfl h.1 (fun c => ?_) (fun c => ?_)
          · replace h := h.2.1 c
            refine zT.it 3 (t := (93, [some (zR 3 0), some (zR 1 0), some (zI a2), some (zI r1), some (zI 0), some (zI (a2 + 1)), some (zI r5), none], [zI r5, zI (a2 + 1), zR 1 0], M5, cl5)) rfl ?_
            refine zT.call (m := 12) (as := [zR 1 0, zI (a2 + 1), zI r5]) (M := M5) (L := [some (zR 3 0), some (zR 1 0), some (zI a2), some (zI r1), some (zI 0), some (zI (a2 + 1)), some (zI r5), none]) (st := []) (pn := 96) (cl := cl5) rfl ?_
            refine zF.mono h (fun v M6 h cl6 => ?_)
            obtain ⟨r6, e6, h⟩ := h; subst e6; replace h := h cl6
            show zT 13 (96, [some (zR 3 0), some (zR 1 0), some (zI a2), some (zI r1), some (zI 0), some (zI (a2 + 1)), some (zI r5), none], [zI r6], M6, cl6) _
            refine zT.it 6 (t := (107, [some (zR 3 0), some (zR 1 0), some (zI a2), some (zI r1), some (zI 0), some (zI (a2 + 1)), some (zI r5), some (zI r6)], [zI r1, zI (M6.1 3 0 2), zR 4 0], M6, cl6)) rfl ?_
            refine zT.chk (p := z_wi (M6.1 3 0 2) 40 ∧ 0 ≤ r1 ∧ r1 ≤ 65535) (t := (108, [some (zR 3 0), some (zR 1 0), some (zI a2), some (zI r1), some (zI 0), some (zI (a2 + 1)), some (zI r5), some (zI r6)], [], (z_w M6 4 0 ((M6.1 3 0 2).toNat) r1), false)) rfl h.1 ?_
            replace h := h.2
            refine zT.it 5 (t := (118, [some (zR 3 0), some (zR 1 0), some (zI a2), some (zI r1), some (zI 0), some (zI (a2 + 1)), some (zI r5), some (zI r6)], [zI 0, zI (M6.1 3 0 2), zR 5 0], (z_w M6 4 0 ((M6.1 3 0 2).toNat) r1), false)) rfl ?_
            refine zT.br (g := zr 0) (p := 0 = 0) (t := (127, [some (zR 3 0), some (zR 1 0), some (zI a2), some (zI r1), some (zI 0), some (zI (a2 + 1)), some (zI r5), some (zI r6)], [zI (M6.1 3 0 2), zR 5 0], (z_w M6 4 0 ((M6.1 3 0 2).toNat) r1), false)) (u := (121, [some (zR 3 0), some (zR 1 0), some (zI a2), some (zI r1), some (zI 0), some (zI (a2 + 1)), some (zI r5), some (zI r6)], [zI (M6.1 3 0 2), zR 5 0], (z_w M6 4 0 ((M6.1 3 0 2).toNat) r1), false)) rfl (by decide) (fun c => ?_) (fun c => absurd (by decide) c)
            refine zT.it 1 (t := (129, [some (zR 3 0), some (zR 1 0), some (zI a2), some (zI r1), some (zI 0), some (zI (a2 + 1)), some (zI r5), some (zI r6)], [zI r6, zI (M6.1 3 0 2), zR 5 0], (z_w M6 4 0 ((M6.1 3 0 2).toNat) r1), false)) rfl ?_
            refine zT.chk (p := z_wi (M6.1 3 0 2) 40) (t := (130, [some (zR 3 0), some (zR 1 0), some (zI a2), some (zI r1), some (zI 0), some (zI (a2 + 1)), some (zI r5), some (zI r6)], [], (z_w (z_w M6 4 0 ((M6.1 3 0 2).toNat) r1) 5 0 ((M6.1 3 0 2).toNat) r6), false)) rfl h.1 ?_
            replace h := h.2
            refine zT.it 7 (t := (142, [some (zR 3 0), some (zR 1 0), some (zI a2), some (zI r1), some (zI 0), some (zI (a2 + 1)), some (zI r5), some (zI r6)], [zI r5], (z_w (z_w (z_w M6 4 0 ((M6.1 3 0 2).toNat) r1) 5 0 ((M6.1 3 0 2).toNat) r6) 3 0 2 ((M6.1 3 0 2) + 1)), false)) rfl ?_
            exact zT.ret (v := some (zI r5)) rfl (by first | exact trivial | decide) h
          · replace h := h.2.2 c
            refine zT.it 1 (t := (87, [some (zR 3 0), some (zR 1 0), some (zI a2), some (zI r1), some (zI 0), some (zI (a2 + 1)), some (zI r5), none], [zI (-1)], M5, cl5)) rfl ?_
            exact zT.ret (v := some (zI (-1))) rfl (by first | exact trivial | decide) h
  · replace h := h.2.2 (Decidable.not_not.1 c)
    refine zT.it 5 (t := (29, [some (zR 3 0), some (zR 1 0), some (zI a2), some (zI r1), some (zI 1), none, none, none], [zI (M2.1 3 0 2)], M2, cl2)) rfl ?_
    refine zT.br (g := zr (M2.1 3 0 2)) (p := ¬ (M2.1 3 0 2) = 0) (t := (45, [some (zR 3 0), some (zR 1 0), some (zI a2), some (zI r1), some (zI 1), none, none, none], [], M2, cl2)) (u := (32, [some (zR 3 0), some (zR 1 0), some (zI a2), some (zI r1), some (zI 1), none, none, none], [], M2, cl2)) rfl h.1 (fun c => ?_) (fun c => ?_)
    · replace h := h.2.1 c
      refine zT.it 1 (t := (47, [some (zR 3 0), some (zR 1 0), some (zI a2), some (zI r1), some (zI 1), none, none, none], [zI 1], M2, cl2)) rfl ?_
      refine zT.br (g := zr 1) (p := 1 = 0) (t := (56, [some (zR 3 0), some (zR 1 0), some (zI a2), some (zI r1), some (zI 1), none, none, none], [], M2, cl2)) (u := (50, [some (zR 3 0), some (zR 1 0), some (zI a2), some (zI r1), some (zI 1), none, none, none], [], M2, cl2)) rfl (by decide) (fun c => absurd c (by decide)) (fun c => ?_)
      refine zT.it 8 (t := (65, [some (zR 3 0), some (zR 1 0), some (zI a2), some (zI r1), some (zI 1), some (zI (a2 + 2)), none, none], [zI 5, zI (a2 + 2), zR 1 0], M2, cl2)) rfl ?_
      refine zT.call (m := 11) (as := [zR 1 0, zI (a2 + 2), zI 5]) (M := M2) (L := [some (zR 3 0), some (zR 1 0), some (zI a2), some (zI r1), some (zI 1), some (zI (a2 + 2)), none, none]) (st := []) (pn := 68) (cl := cl2) rfl ?_
      refine zF.mono h (fun v M7 h cl7 => ?_)
      obtain ⟨r7, e7, h⟩ := h; subst e7; replace h := h cl7
      show zT 13 (68, [some (zR 3 0), some (zR 1 0), some (zI a2), some (zI r1), some (zI 1), some (zI (a2 + 2)), none, none], [zI r7], M7, cl7) _
      refine zT.it 3 (t := (74, [some (zR 3 0), some (zR 1 0), some (zI a2), some (zI r1), some (zI 1), some (zI (a2 + 2)), some (zI r7), none], [zI (a2 + 2), zI r7], M7, cl7)) rfl ?_
      refine zT.br (g := zr r7 ∧ zr (a2 + 2)) (p := r7 = (a2 + 2)) (t := (86, [some (zR 3 0), some (zR 1 0), some (zI a2), some (zI r1), some (zI 1), some (zI (a2 + 2)), some (zI r7), none], [], M7, cl7)) (u := (77, [some (zR 3 0), some (zR 1 0), some (zI a2), some (zI r1), some (zI 1), some (zI (a2 + 2)), some (zI r7), none], [], M7, cl7)) rfl h.1 (fun c => ?_) (fun c => ?_)
      · replace h := h.2.1 c
        refine zT.it 1 (t := (87, [some (zR 3 0), some (zR 1 0), some (zI a2), some (zI r1), some (zI 1), some (zI (a2 + 2)), some (zI r7), none], [zI (-1)], M7, cl7)) rfl ?_
        exact zT.ret (v := some (zI (-1))) rfl (by first | exact trivial | decide) h
      · replace h := h.2.2 c
        refine zT.it 3 (t := (83, [some (zR 3 0), some (zR 1 0), some (zI a2), some (zI r1), some (zI 1), some (zI (a2 + 2)), some (zI r7), none], [zI 40, zI (M7.1 3 0 2)], M7, cl7)) rfl ?_
        refine zT.br (g := zr (M7.1 3 0 2) ∧ zr 40) (p := (M7.1 3 0 2) < 40) (t := (88, [some (zR 3 0), some (zR 1 0), some (zI a2), some (zI r1), some (zI 1), some (zI (a2 + 2)), some (zI r7), none], [], M7, cl7)) (u := (86, [some (zR 3 0), some (zR 1 0), some (zI a2), some (zI r1), some (zI 1), some (zI (a2 + 2)), some (zI r7), none], [], M7, cl7)) rfl h.1 (fun c => ?_) (fun c => ?_)
        · replace h := h.2.1 c
          refine zT.it 3 (t := (93, [some (zR 3 0), some (zR 1 0), some (zI a2), some (zI r1), some (zI 1), some (zI (a2 + 2)), some (zI r7), none], [zI r7, zI (a2 + 2), zR 1 0], M7, cl7)) rfl ?_
          refine zT.call (m := 12) (as := [zR 1 0, zI (a2 + 2), zI r7]) (M := M7) (L := [some (zR 3 0), some (zR 1 0), some (zI a2), some (zI r1), some (zI 1), some (zI (a2 + 2)), some (zI r7), none]) (st := []) (pn := 96) (cl := cl7) rfl ?_
          refine zF.mono h (fun v M8 h cl8 => ?_)
          obtain ⟨r8, e8, h⟩ := h; subst e8; replace h := h cl8
          show zT 13 (96, [some (zR 3 0), some (zR 1 0), some (zI a2), some (zI r1), some (zI 1), some (zI (a2 + 2)), some (zI r7), none], [zI r8], M8, cl8) _
          refine zT.it 6 (t := (107, [some (zR 3 0), some (zR 1 0), some (zI a2), some (zI r1), some (zI 1), some (zI (a2 + 2)), some (zI r7), some (zI r8)], [zI r1, zI (M8.1 3 0 2), zR 4 0], M8, cl8)) rfl ?_
          refine zT.chk (p := z_wi (M8.1 3 0 2) 40 ∧ 0 ≤ r1 ∧ r1 ≤ 65535) (t := (108, [some (zR 3 0), some (zR 1 0), some (zI a2), some (zI r1), some (zI 1), some (zI (a2 + 2)), some (zI r7), some (zI r8)], [], (z_w M8 4 0 ((M8.1 3 0 2).toNat) r1), false)) rfl h.1 ?_
          replace h := h.2
          refine zT.it 5 (t := (118, [some (zR 3 0), some (zR 1 0), some (zI a2), some (zI r1), some (zI 1), some (zI (a2 + 2)), some (zI r7), some (zI r8)], [zI 1, zI (M8.1 3 0 2), zR 5 0], (z_w M8 4 0 ((M8.1 3 0 2).toNat) r1), false)) rfl ?_
          refine zT.br (g := zr 1) (p := 1 = 0) (t := (127, [some (zR 3 0), some (zR 1 0), some (zI a2), some (zI r1), some (zI 1), some (zI (a2 + 2)), some (zI r7), some (zI r8)], [zI (M8.1 3 0 2), zR 5 0], (z_w M8 4 0 ((M8.1 3 0 2).toNat) r1), false)) (u := (121, [some (zR 3 0), some (zR 1 0), some (zI a2), some (zI r1), some (zI 1), some (zI (a2 + 2)), some (zI r7), some (zI r8)], [zI (M8.1 3 0 2), zR 5 0], (z_w M8 4 0 ((M8.1 3 0 2).toNat) r1), false)) rfl (by decide) (fun c => absurd c (by decide)) (fun c => ?_)
          refine zT.it 3 (t := (129, [some (zR 3 0), some (zR 1 0), some (zI a2), some (zI r1), some (zI 1), some (zI (a2 + 2)), some (zI r7), some (zI r8)], [zI (-r8), zI (M8.1 3 0 2), zR 5 0], (z_w M8 4 0 ((M8.1 3 0 2).toNat) r1), false)) rfl ?_
          refine zT.chk (p := z_wi (M8.1 3 0 2) 40) (t := (130, [some (zR 3 0), some (zR 1 0), some (zI a2), some (zI r1), some (zI 1), some (zI (a2 + 2)), some (zI r7), some (zI r8)], [], (z_w (z_w M8 4 0 ((M8.1 3 0 2).toNat) r1) 5 0 ((M8.1 3 0 2).toNat) (-r8)), false)) rfl h.1 ?_
          replace h := h.2
          refine zT.it 7 (t := (142, [some (zR 3 0), some (zR 1 0), some (zI a2), some (zI r1), some (zI 1), some (zI (a2 + 2)), some (zI r7), some (zI r8)], [zI r7], (z_w (z_w (z_w M8 4 0 ((M8.1 3 0 2).toNat) r1) 5 0 ((M8.1 3 0 2).toNat) (-r8)) 3 0 2 ((M8.1 3 0 2) + 1)), false)) rfl ?_
          exact zT.ret (v := some (zI r7)) rfl (by first | exact trivial | decide) h
        · replace h := h.2.2 c
          refine zT.it 1 (t := (87, [some (zR 3 0), some (zR 1 0), some (zI a2), some (zI r1), some (zI 1), some (zI (a2 + 2)), some (zI r7), none], [zI (-1)], M7, cl7)) rfl ?_
          exact zT.ret (v := some (zI (-1))) rfl (by first | exact trivial | decide) h
    · replace h := h.2.2 (Decidable.not_not.1 c)
      refine zT.it 2 (t := (35, [some (zR 3 0), some (zR 1 0), some (zI a2), some (zI r1), some (zI 1), none, none, none], [zI 78, zI r1], M2, cl2)) rfl ?_
      refine zT.br (g := zr r1 ∧ zr 78) (p := ¬ r1 = 78) (t := (43, [some (zR 3 0), some (zR 1 0), some (zI a2), some (zI r1), some (zI 1), none, none, none], [], M2, cl2)) (u := (38, [some (zR 3 0), some (zR 1 0), some (zI a2), some (zI r1), some (zI 1), none, none, none], [], M2, cl2)) rfl h.1 (fun c => ?_) (fun c => ?_)
      · replace h := h.2.1 c
        refine zT.it 1 (t := (44, [some (zR 3 0), some (zR 1 0), some (zI a2), some (zI r1), some (zI 1), none, none, none], [zI (-1)], M2, cl2)) rfl ?_
        exact zT.ret (v := some (zI (-1))) rfl (by first | exact trivial | decide) h
      · replace h := h.2.2 (Decidable.not_not.1 c)
        refine zT.it 1 (t := (40, [some (zR 3 0), some (zR 1 0), some (zI a2), some (zI r1), some (zI 1), none, none, none], [zI 1], M2, cl2)) rfl ?_
        refine zT.br (g := zr 1) (p := 1 = 0) (t := (45, [some (zR 3 0), some (zR 1 0), some (zI a2), some (zI r1), some (zI 1), none, none, none], [], M2, cl2)) (u := (43, [some (zR 3 0), some (zR 1 0), some (zI a2), some (zI r1), some (zI 1), none, none, none], [], M2, cl2)) rfl (by decide) (fun c => absurd c (by decide)) (fun c => ?_)
        refine zT.it 1 (t := (44, [some (zR 3 0), some (zR 1 0), some (zI a2), some (zI r1), some (zI 1), none, none, none], [zI (-1)], M2, cl2)) rfl ?_
        exact zT.ret (v := some (zI (-1))) rfl (by first | exact trivial | decide) h
theorem g14_0 {a1 : Int} {M : zM} {Q : zQ} (h : (zr a1 ∧ zr (M.1 1 0 1)) ∧ ((¬ a1 = (M.1 1 0 1) → Q (.inl (some (zI 0))) M true 0) ∧ (a1 = (M.1 1 0 1) → Q (.inl (some (zI 1))) M true 0))) : zT 14 (0, [some (zR 1 0), some (zI a1)], [], M, true) Q := by
  refine zT.it 3 (t := (5, [some (zR 1 0), some (zI a1)], [zI (M.1 1 0 1), zI a1], M, true)) rfl ?_
  refine zT.br (g := zr a1 ∧ zr (M.1 1 0 1)) (p := ¬ a1 = (M.1 1 0 1)) (t := (12, [some (zR 1 0), some (zI a1)], [], M, true)) (u := (8, [some (zR 1 0), some (zI a1)], [], M, true)) rfl h.1 (fun c => ?_) (fun c => ?_)
  · replace h := h.2.1 c
    refine zT.it 1 (t := (13, [some (zR 1 0), some (zI a1)], [zI 0], M, true)) rfl ?_
    exact zT.ret (v := some (zI 0)) rfl (by first | exact trivial | decide) h
  · replace h := h.2.2 (Decidable.not_not.1 c)
    refine zT.it 2 (t := (13, [some (zR 1 0), some (zI a1)], [zI 1], M, true)) rfl ?_
    exact zT.ret (v := some (zI 1)) rfl (by first | exact trivial | decide) h
theorem g15_0 {a1 : Int} {M : zM} {Q : zQ} (h : zT 15 (4, [some (zR 1 0), some (zI a1), some (zI 0), some (zI 0)], [], M, true) Q) : zT 15 (0, [some (zR 1 0), some (zI a1), none, none], [], M, true) Q := by
  refine zT.it 4 (t := (4, [some (zR 1 0), some (zI a1), some (zI 0), some (zI 0)], [], M, true)) rfl ?_
  exact h
theorem g15_4 {x1 : Int} {x2 : Int} {x3 : Int} {M : zM} {cl : Bool} {Q : zQ} (h : (zr x3 ∧ zr x1) ∧ ((x1 ≤ x3 → Q (.inl (some (zI x2))) M cl 0) ∧ (¬ (x1 ≤ x3) → zF 8 [zR 1 0, zI x3] M (fun v M1 => ∃ r1 : Int, v = some (zI r1) ∧ ∀ cl1 : Bool, (z_p x2 ∧ z_p r1) ∧ (zT 15 (4, [some (zR 1 0), some (zI x1), some (zI (Int.ofNat (Int.toNat x2 ^^^ Int.toNat r1))), some (zI (x3 + 1))], [], M1, cl1) Q))))) : zT 15 (4, [some (zR 1 0), some (zI x1), some (zI x2), some (zI x3)], [], M, cl) Q := by
  refine zT.it 2 (t := (6, [some (zR 1 0), some (zI x1), some (zI x2), some (zI x3)], [zI x1, zI x3], M, cl)) rfl ?_
  refine zT.br (g := zr x3 ∧ zr x1) (p := x1 ≤ x3) (t := (23, [some (zR 1 0), some (zI x1), some (zI x2), some (zI x3)], [], M, cl)) (u := (9, [some (zR 1 0), some (zI x1), some (zI x2), some (zI x3)], [], M, cl)) rfl h.1 (fun c => ?_) (fun c => ?_)
  · replace h := h.2.1 c
    refine zT.it 1 (t := (24, [some (zR 1 0), some (zI x1), some (zI x2), some (zI x3)], [zI x2], M, cl)) rfl ?_
    exact zT.ret (v := some (zI x2)) rfl (by first | exact trivial | decide) h
  · replace h := h.2.2 c
    refine zT.it 3 (t := (12, [some (zR 1 0), some (zI x1), some (zI x2), some (zI x3)], [zI x3, zR 1 0, zI x2], M, cl)) rfl ?_
    refine zT.call (m := 8) (as := [zR 1 0, zI x3]) (M := M) (L := [some (zR 1 0), some (zI x1), some (zI x2), some (zI x3)]) (st := [zI x2]) (pn := 15) (cl := cl) rfl ?_
    refine zF.mono h (fun v M1 h cl1 => ?_)
    obtain ⟨r1, e1, h⟩ := h; subst e1; replace h := h cl1
    show zT 15 (15, [some (zR 1 0), some (zI x1), some (zI x2), some (zI x3)], [zI r1, zI x2], M1, cl1) _
    refine zT.chk (p := z_p x2 ∧ z_p r1) (t := (16, [some (zR 1 0), some (zI x1), some (zI x2), some (zI x3)], [zI (Int.ofNat (Int.toNat x2 ^^^ Int.toNat r1))], M1, cl1)) rfl h.1 ?_
    replace h := h.2
    refine zT.it 3 (t := (4, [some (zR 1 0), some (zI x1), some (zI (Int.ofNat (Int.toNat x2 ^^^ Int.toNat r1))), some (zI (x3 + 1))], [], M1, cl1)) rfl ?_
    exact h
theorem g16_0 {a2 : Int} {M : zM} {Q : zQ} (h : zF 11 [zR 1 0, zI (a2 + 1), zI 3] M (fun v M1 => ∃ r1 : Int, v = some (zI r1) ∧ ∀ cl1 : Bool, zF 8 [zR 1 0, zI a2] M1 (fun v M2 => ∃ r2 : Int, v = some (zI r2) ∧ ∀ cl2 : Bool, (zr r2 ∧ zr 42) ∧ ((¬ r2 = 42 → Q (.inl (some (zI 0))) M2 cl2 0) ∧ (r2 = 42 → (zr r1 ∧ zr (a2 + 1)) ∧ ((r1 ≤ (a2 + 1) → Q (.inl (some (zI 0))) M2 cl2 0) ∧ (¬ (r1 ≤ (a2 + 1)) → zF 9 [zR 1 0, zI r1] M2 (fun v M3 => ∃ r3 : Int, v = some (zI r3) ∧ ∀ cl3 : Bool, zF 14 [zR 1 0, zI r3] M3 (fun v M4 => ∃ r4 : Int, v = some (zI r4) ∧ ∀ cl4 : Bool, (zr r4) ∧ ((r4 = 0 → Q (.inl (some (zI 0))) M4 cl4 0) ∧ (¬ (r4 = 0) → zF 12 [zR 1 0, zI (a2 + 1), zI r1] M4 (fun v M5 => ∃ r5 : Int, v = some (zI r5) ∧ ∀ cl5 : Bool, zF 15 [zR 1 0, zI a2] M5 (fun v M6 => ∃ r6 : Int, v = some (zI r6) ∧ ∀ cl6 : Bool, (zr r5 ∧ zr r6) ∧ ((¬ r5 = r6 → Q (.inl (some (zI 0))) M6 cl6 0) ∧ (r5 = r6 → Q (.inl (some (zI 1))) M6 cl6 0))))))))))))))) : zT 16 (0, [some (zR 1 0), some (zI a2), none, none], [], M, true) Q := by
  refine zT.it 7 (t := (7, [some (zR 1 0), some (zI a2), some (zI (a2 + 1)), none], [zI 3, zI (a2 + 1), zR 1 0], M, true)) rfl ?_
  refine zT.call (m := 11) (as := [zR 1 0, zI (a2 + 1), zI 3]) (M := M) (L := [some (zR 1 0), some (zI a2), some (zI (a2 + 1)), none]) (st := []) (pn := 10) (cl := true) rfl ?_
  refine zF.mono h (fun v M1 h cl1 => ?_)
  obtain ⟨r1, e1, h⟩ := h; subst e1; replace h := h cl1
  show zT 16 (10, [some (zR 1 0), some (zI a2), some (zI (a2 + 1)), none], [zI r1], M1, cl1) _
  refine zT.it 3 (t := (13, [some (zR 1 0), some (zI a2), some (zI (a2 + 1)), some (zI r1)], [zI a2, zR 1 0], M1, cl1)) rfl ?_
  refine zT.call (m := 8) (as := [zR 1 0, zI a2]) (M := M1) (L := [some (zR 1 0), some (zI a2), some (zI (a2 + 1)), some (zI r1)]) (st := []) (pn := 16) (cl := cl1) rfl ?_
  refine zF.mono h (fun v M2 h cl2 => ?_)
  obtain ⟨r2, e2, h⟩ := h; subst e2; replace h := h cl2
  show zT 16 (16, [some (zR 1 0), some (zI a2), some (zI (a2 + 1)), some (zI r1)], [zI r2], M2, cl2) _
  refine zT.it 1 (t := (18, [some (zR 1 0), some (zI a2), some (zI (a2 + 1)), some (zI r1)], [zI 42, zI r2], M2, cl2)) rfl ?_
  refine zT.br (g := zr r2 ∧ zr 42) (p := ¬ r2 = 42) (t := (56, [some (zR 1 0), some (zI a2), some (zI (a2 + 1)), some (zI r1)], [], M2, cl2)) (u := (21, [some (zR 1 0), some (zI a2), some (zI (a2 + 1)), some (zI r1)], [], M2, cl2)) rfl h.1 (fun c => ?_) (fun c => ?_)
  · replace h := h.2.1 c
    refine zT.it 1 (t := (57, [some (zR 1 0), some (zI a2), some (zI (a2 + 1)), some (zI r1)], [zI 0], M2, cl2)) rfl ?_
    exact zT.ret (v := some (zI 0)) rfl (by first | exact trivial | decide) h
  · replace h := h.2.2 (Decidable.not_not.1 c)
    refine zT.it 2 (t := (23, [some (zR 1 0), some (zI a2), some (zI (a2 + 1)), some (zI r1)], [zI (a2 + 1), zI r1], M2, cl2)) rfl ?_
    refine zT.br (g := zr r1 ∧ zr (a2 + 1)) (p := r1 ≤ (a2 + 1)) (t := (56, [some (zR 1 0), some (zI a2), some (zI (a2 + 1)), some (zI r1)], [], M2, cl2)) (u := (26, [some (zR 1 0), some (zI a2), some (zI (a2 + 1)), some (zI r1)], [], M2, cl2)) rfl h.1 (fun c => ?_) (fun c => ?_)
    · replace h := h.2.1 c
      refine zT.it 1 (t := (57, [some (zR 1 0), some (zI a2), some (zI (a2 + 1)), some (zI r1)], [zI 0], M2, cl2)) rfl ?_
      exact zT.ret (v := some (zI 0)) rfl (by first | exact trivial | decide) h
    · replace h := h.2.2 c
      refine zT.it 3 (t := (29, [some (zR 1 0), some (zI a2), some (zI (a2 + 1)), some (zI r1)], [zI r1, zR 1 0, zR 1 0], M2, cl2)) rfl ?_
      refine zT.call (m := 9) (as := [zR 1 0, zI r1]) (M := M2) (L := [some (zR 1 0), some (zI a2), some (zI (a2 + 1)), some (zI r1)]) (st := [zR 1 0]) (pn := 32) (cl := cl2) rfl ?_
      refine zF.mono h (fun v M3 h cl3 => ?_)
      obtain ⟨r3, e3, h⟩ := h; subst e3; replace h := h cl3
      show zT 16 (32, [some (zR 1 0), some (zI a2), some (zI (a2 + 1)), some (zI r1)], [zI r3, zR 1 0], M3, cl3) _
      refine zT.call (m := 14) (as := [zR 1 0, zI r3]) (M := M3) (L := [some (zR 1 0), some (zI a2), some (zI (a2 + 1)), some (zI r1)]) (st := []) (pn := 35) (cl := cl3) rfl ?_
      refine zF.mono h (fun v M4 h cl4 => ?_)
      obtain ⟨r4, e4, h⟩ := h; subst e4; replace h := h cl4
      show zT 16 (35, [some (zR 1 0), some (zI a2), some (zI (a2 + 1)), some (zI r1)], [zI r4], M4, cl4) _
      refine zT.br (g := zr r4) (p := r4 = 0) (t := (56, [some (zR 1 0), some (zI a2), some (zI (a2 + 1)), some (zI r1)], [], M4, cl4)) (u := (38, [some (zR 1 0), some (zI a2), some (zI (a2 + 1)), some (zI r1)], [], M4, cl4)) rfl h.1 (fun c => ?_) (fun c => ?_)
      · replace h := h.2.1 c
        refine zT.it 1 (t := (57, [some (zR 1 0), some (zI a2), some (zI (a2 + 1)), some (zI r1)], [zI 0], M4, cl4)) rfl ?_
        exact zT.ret (v := some (zI 0)) rfl (by first | exact trivial | decide) h
      · replace h := h.2.2 c
        refine zT.it 3 (t := (41, [some (zR 1 0), some (zI a2), some (zI (a2 + 1)), some (zI r1)], [zI r1, zI (a2 + 1), zR 1 0], M4, cl4)) rfl ?_
        refine zT.call (m := 12) (as := [zR 1 0, zI (a2 + 1), zI r1]) (M := M4) (L := [some (zR 1 0), some (zI a2), some (zI (a2 + 1)), some (zI r1)]) (st := []) (pn := 44) (cl := cl4) rfl ?_
        refine zF.mono h (fun v M5 h cl5 => ?_)
        obtain ⟨r5, e5, h⟩ := h; subst e5; replace h := h cl5
        show zT 16 (44, [some (zR 1 0), some (zI a2), some (zI (a2 + 1)), some (zI r1)], [zI r5], M5, cl5) _
        refine zT.it 2 (t := (46, [some (zR 1 0), some (zI a2), some (zI (a2 + 1)), some (zI r1)], [zI a2, zR 1 0, zI r5], M5, cl5)) rfl ?_
        refine zT.call (m := 15) (as := [zR 1 0, zI a2]) (M := M5) (L := [some (zR 1 0), some (zI a2), some (zI (a2 + 1)), some (zI r1)]) (st := [zI r5]) (pn := 49) (cl := cl5) rfl ?_
        refine zF.mono h (fun v M6 h cl6 => ?_)
        obtain ⟨r6, e6, h⟩ := h; subst e6; replace h := h cl6
        show zT 16 (49, [some (zR 1 0), some (zI a2), some (zI (a2 + 1)), some (zI r1)], [zI r6, zI r5], M6, cl6) _
        refine zT.br (g := zr r5 ∧ zr r6) (p := ¬ r5 = r6) (t := (56, [some (zR 1 0), some (zI a2), some (zI (a2 + 1)), some (zI r1)], [], M6, cl6)) (u := (52, [some (zR 1 0), some (zI a2), some (zI (a2 + 1)), some (zI r1)], [], M6, cl6)) rfl h.1 (fun c => ?_) (fun c => ?_)
        · replace h := h.2.1 c
          refine zT.it 1 (t := (57, [some (zR 1 0), some (zI a2), some (zI (a2 + 1)), some (zI r1)], [zI 0], M6, cl6)) rfl ?_
          exact zT.ret (v := some (zI 0)) rfl (by first | exact trivial | decide) h
        · replace h := h.2.2 (Decidable.not_not.1 c)
          refine zT.it 2 (t := (57, [some (zR 1 0), some (zI a2), some (zI (a2 + 1)), some (zI r1)], [zI 1], M6, cl6)) rfl ?_
          exact zT.ret (v := some (zI 1)) rfl (by first | exact trivial | decide) h
theorem g17_0 {M : zM} {Q : zQ} (h : zF 9 [zR 1 0, zI 0] (z_w M 3 0 2 0) (fun v M1 => ∃ r1 : Int, v = some (zI r1) ∧ ∀ cl1 : Bool, zT 17 (13, [some (zR 3 0), some (zR 1 0), some (zI r1), some (zI 0), none], [], M1, cl1) Q)) : zT 17 (0, [some (zR 3 0), some (zR 1 0), none, none, none], [], M, true) Q := by
  refine zT.it 5 (t := (7, [some (zR 3 0), some (zR 1 0), none, none, none], [zI 0, zR 1 0], (z_w M 3 0 2 0), false)) rfl ?_
  refine zT.call (m := 9) (as := [zR 1 0, zI 0]) (M := (z_w M 3 0 2 0)) (L := [some (zR 3 0), some (zR 1 0), none, none, none]) (st := []) (pn := 10) (cl := false) rfl ?_
  refine zF.mono h (fun v M1 h cl1 => ?_)
  obtain ⟨r1, e1, h⟩ := h; subst e1; replace h := h cl1
  show zT 17 (10, [some (zR 3 0), some (zR 1 0), none, none, none], [zI r1], M1, cl1) _
  refine zT.it 3 (t := (13, [some (zR 3 0), some (zR 1 0), some (zI r1), some (zI 0), none], [], M1, cl1)) rfl ?_
  exact h
theorem g17_13 {x2 : Int} {x3 : Int} {u4 : Option zV} {M : zM} {cl : Bool} {Q : zQ} (h : (zr x3 ∧ zr 40) ∧ ((40 ≤ x3 → (zr (M.1 3 0 2)) ∧ (((M.1 3 0 2) ≤ 0 → Q (.inl (some (zI 0))) M cl 0) ∧ (¬ ((M.1 3 0 2) ≤ 0) → zF 16 [zR 1 0, zI x2] M (fun v M2 => ∃ r2 : Int, v = some (zI r2) ∧ ∀ cl2 : Bool, (zr r2) ∧ ((r2 = 0 → Q (.inl (some (zI 0))) M2 cl2 0) ∧ (¬ (r2 = 0) → Q (.inl (some (zI 1))) M2 cl2 0)))))) ∧ (¬ (40 ≤ x3) → zF 8 [zR 1 0, zI x2] M (fun v M3 => ∃ r3 : Int, v = some (zI r3) ∧ ∀ cl3 : Bool, zF 10 [zI r3] M3 (fun v M4 => ∃ r4 : Int, v = some (zI r4) ∧ ∀ cl4 : Bool, (zr r4) ∧ ((r4 = 0 → (zr (M4.1 3 0 2)) ∧ (((M4.1 3 0 2) ≤ 0 → Q (.inl (some (zI 0))) M4 cl4 0) ∧ (¬ ((M4.1 3 0 2) ≤ 0) → zF 16 [zR 1 0, zI x2] M4 (fun v M5 => ∃ r5 : Int, v = some (zI r5) ∧ ∀ cl5 : Bool, (zr r5) ∧ ((r5 = 0 → Q (.inl (some (zI 0))) M5 cl5 0) ∧ (¬ (r5 = 0) → Q (.inl (some (zI 1))) M5 cl5 0)))))) ∧ (¬ (r4 = 0) → zF 13 [zR 3 0, zR 1 0, zI x2] M4 (fun v M6 => ∃ r6 : Int, v = some (zI r6) ∧ ∀ cl6 : Bool, (zr r6 ∧ zr (-1)) ∧ ((¬ r6 = (-1) → zF 9 [zR 1 0, zI r6] M6 (fun v M7 => ∃ r7 : Int, v = some (zI r7) ∧ ∀ cl7 : Bool, zT 17 (13, [some (zR 3 0), some (zR 1 0), some (zI r7), some (zI (x3 + 1)), some (zI r6)], [], M7, cl7) Q)) ∧ (r6 = (-1) → Q (.inl (some (zI 0))) M6 cl6 0)))))))))) : zT 17 (13, [some (zR 3 0), some (zR 1 0), some (zI x2), some (zI x3), u4], [], M, cl) Q := by
  refine zT.it 2 (t := (16, [some (zR 3 0), some (zR 1 0), some (zI x2), some (zI x3), u4], [zI 40, zI x3], M, cl)) rfl ?_
  refine zT.br (g := zr x3 ∧ zr 40) (p := 40 ≤ x3) (t := (59, [some (zR 3 0), some (zR 1 0), some (zI x2), some (zI x3), u4], [], M, cl)) (u := (19, [some (zR 3 0), some (zR 1 0), some (zI x2), some (zI x3), u4], [], M, cl)) rfl h.1 (fun c => ?_) (fun c => ?_)
  · replace h := h.2.1 c
    refine zT.it 2 (t := (63, [some (zR 3 0), some (zR 1 0), some (zI x2), some (zI x3), u4], [zI (M.1 3 0 2)], M, cl)) rfl ?_
    refine zT.br (g := zr (M.1 3 0 2)) (p := (M.1 3 0 2) ≤ 0) (t := (78, [some (zR 3 0), some (zR 1 0), some (zI x2), some (zI x3), u4], [], M, cl)) (u := (66, [some (zR 3 0), some (zR 1 0), some (zI x2), some (zI x3), u4], [], M, cl)) rfl h.1 (fun c => ?_) (fun c => ?_)
    · replace h := h.2.1 c
      refine zT.it 1 (t := (79, [some (zR 3 0), some (zR 1 0), some (zI x2), some (zI x3), u4], [zI 0], M, cl)) rfl ?_
      exact zT.ret (v := some (zI 0)) rfl (by first | exact trivial | decide) h
    · replace h := h.2.2 c
      refine zT.it 2 (t := (68, [some (zR 3 0), some (zR 1 0), some (zI x2), some (zI x3), u4], [zI x2, zR 1 0], M, cl)) rfl ?_
      refine zT.call (m := 16) (as := [zR 1 0, zI x2]) (M := M) (L := [some (zR 3 0), some (zR 1 0), some (zI x2), some (zI x3), u4]) (st := []) (pn := 71) (cl := cl) rfl ?_
      refine zF.mono h (fun v M2 h cl2 => ?_)
      obtain ⟨r2, e2, h⟩ := h; subst e2; replace h := h cl2
      show zT 17 (71, [some (zR 3 0), some (zR 1 0), some (zI x2), some (zI x3), u4], [zI r2], M2, cl2) _
      refine zT.br (g := zr r2) (p := r2 = 0) (t := (78, [some (zR 3 0), some (zR 1 0), some (zI x2), some (zI x3), u4], [], M2, cl2)) (u := (74, [some (zR 3 0), some (zR 1 0), some (zI x2), some (zI x3), u4], [], M2, cl2)) rfl h.1 (fun c => ?_) (fun c => ?_)
      · replace h := h.2.1 c
        refine zT.it 1 (t := (79, [some (zR 3 0), some (zR 1 0), some (zI x2), some (zI x3), u4], [zI 0], M2, cl2)) rfl ?_
        exact zT.ret (v := some (zI 0)) rfl (by first | exact trivial | decide) h
      · replace h := h.2.2 c
        refine zT.it 2 (t := (79, [some (zR 3 0), some (zR 1 0), some (zI x2), some (zI x3), u4], [zI 1], M2, cl2)) rfl ?_
        exact zT.ret (v := some (zI 1)) rfl (by first | exact trivial | decide) h
  · replace h := h.2.2 c
    refine zT.it 2 (t := (21, [some (zR 3 0), some (zR 1 0), some (zI x2), some (zI x3), u4], [zI x2, zR 1 0], M, cl)) rfl ?_
    refine zT.call (m := 8) (as := [zR 1 0, zI x2]) (M := M) (L := [some (zR 3 0), some (zR 1 0), some (zI x2), some (zI x3), u4]) (st := []) (pn := 24) (cl := cl) rfl ?_
    refine zF.mono h (fun v M3 h cl3 => ?_)
    obtain ⟨r3, e3, h⟩ := h; subst e3; replace h := h cl3
    show zT 17 (24, [some (zR 3 0), some (zR 1 0), some (zI x2), some (zI x3), u4], [zI r3], M3, cl3) _
    refine zT.call (m := 10) (as := [zI r3]) (M := M3) (L := [some (zR 3 0), some (zR 1 0), some (zI x2), some (zI x3), u4]) (st := []) (pn := 27) (cl := cl3) rfl ?_
    refine zF.mono h (fun v M4 h cl4 => ?_)
    obtain ⟨r4, e4, h⟩ := h; subst e4; replace h := h cl4
    show zT 17 (27, [some (zR 3 0), some (zR 1 0), some (zI x2), some (zI x3), u4], [zI r4], M4, cl4) _
    refine zT.br (g := zr r4) (p := r4 = 0) (t := (59, [some (zR 3 0), some (zR 1 0), some (zI x2), some (zI x3), u4], [], M4, cl4)) (u := (30, [some (zR 3 0), some (zR 1 0), some (zI x2), some (zI x3), u4], [], M4, cl4)) rfl h.1 (fun c => ?_) (fun c => ?_)
    · replace h := h.2.1 c
      refine zT.it 2 (t := (63, [some (zR 3 0), some (zR 1 0), some (zI x2), some (zI x3), u4], [zI (M4.1 3 0 2)], M4, cl4)) rfl ?_
      refine zT.br (g := zr (M4.1 3 0 2)) (p := (M4.1 3 0 2) ≤ 0) (t := (78, [some (zR 3 0), some (zR 1 0), some (zI x2), some (zI x3), u4], [], M4, cl4)) (u := (66, [some (zR 3 0), some (zR 1 0), some (zI x2), some (zI x3), u4], [], M4, cl4)) rfl h.1 (fun c => ?_) (fun c => ?_)
      · replace h := h.2.1 c
        refine zT.it 1 (t := (79, [some (zR 3 0), some (zR 1 0), some (zI x2), some (zI x3), u4], [zI 0], M4, cl4)) rfl ?_
        exact zT.ret (v := some (zI 0)) rfl (by first | exact trivial | decide) h
      · replace h := h.2.2 c
        refine zT.it 2 (t := (68, [some (zR 3 0), some (zR 1 0), some (zI x2), some (zI x3), u4], [zI x2, zR 1 0], M4, cl4)) rfl ?_
        refine zT.call (m := 16) (as := [zR 1 0, zI x2]) (M := M4) (L := [some (zR 3 0), some (zR 1 0), some (zI x2), some (zI x3), u4]) (st := []) (pn := 71) (cl := cl4) rfl ?_
        refine zF.mono h (fun v M5 h cl5 => ?_)
        obtain ⟨r5, e5, h⟩ := h; subst e5; replace h := h cl5
        show zT 17 (71, [some (zR 3 0), some (zR 1 0), some (zI x2), some (zI x3), u4], [zI r5], M5, cl5) _
        refine zT.br (g := zr r5) (p := r5 = 0) (t := (78, [some (zR 3 0), some (zR 1 0), some (zI x2), some (zI x3), u4], [], M5, cl5)) (u := (74, [some (zR 3 0), some (zR 1 0), some (zI x2), some (zI x3), u4], [], M5, cl5)) rfl h.1 (fun c => ?_) (fun c => ?_)
        · replace h := h.2.1 c
          refine zT.it 1 (t := (79, [some (zR 3 0), some (zR 1 0), some (zI x2), some (zI x3), u4], [zI 0], M5, cl5)) rfl ?_
          exact zT.ret (v := some (zI 0)) rfl (by first | exact trivial | decide) h
        · replace h := h.2.2 c
          refine zT.it 2 (t := (79, [some (zR 3 0), some (zR 1 0), some (zI x2), some (zI x3), u4], [zI 1], M5, cl5)) rfl ?_
          exact zT.ret (v := some (zI 1)) rfl (by first | exact trivial | decide) h
    · replace h := h.2.2 c
      refine zT.it 3 (t := (33, [some (zR 3 0), some (zR 1 0), some (zI x2), some (zI x3), u4], [zI x2, zR 1 0, zR 3 0], M4, cl4)) rfl ?_
      refine zT.call (m := 13) (as := [zR 3 0, zR 1 0, zI x2]) (M := M4) (L := [some (zR 3 0), some (zR 1 0), some (zI x2), some (zI x3), u4]) (st := []) (pn := 36) (cl := cl4) rfl ?_
      refine zF.mono h (fun v M6 h cl6 => ?_)
      obtain ⟨r6, e6, h⟩ := h; subst e6; replace h := h cl6
      show zT 17 (36, [some (zR 3 0), some (zR 1 0), some (zI x2), some (zI x3), u4], [zI r6], M6, cl6) _
      refine zT.it 3 (t := (41, [some (zR 3 0), some (zR 1 0), some (zI x2), some (zI x3), some (zI r6)], [zI (-1), zI r6], M6, cl6)) rfl ?_
      refine zT.br (g := zr r6 ∧ zr (-1)) (p := ¬ r6 = (-1)) (t := (46, [some (zR 3 0), some (zR 1 0), some (zI x2), some (zI x3), some (zI r6)], [], M6, cl6)) (u := (44, [some (zR 3 0), some (zR 1 0), some (zI x2), some (zI x3), some (zI r6)], [], M6, cl6)) rfl h.1 (fun c => ?_) (fun c => ?_)
      · replace h := h.2.1 c
        refine zT.it 2 (t := (49, [some (zR 3 0), some (zR 1 0), some (zI x2), some (zI x3), some (zI r6)], [zI r6, zR 1 0], M6, cl6)) rfl ?_
        refine zT.call (m := 9) (as := [zR 1 0, zI r6]) (M := M6) (L := [some (zR 3 0), some (zR 1 0), some (zI x2), some (zI x3), some (zI r6)]) (st := []) (pn := 52) (cl := cl6) rfl ?_
        refine zF.mono h (fun v M7 h cl7 => ?_)
        obtain ⟨r7, e7, h⟩ := h; subst e7; replace h := h cl7
        show zT 17 (52, [some (zR 3 0), some (zR 1 0), some (zI x2), some (zI x3), some (zI r6)], [zI r7], M7, cl7) _
        refine zT.it 3 (t := (13, [some (zR 3 0), some (zR 1 0), some (zI r7), some (zI (x3 + 1)), some (zI r6)], [], M7, cl7)) rfl ?_
        exact h
      · replace h := h.2.2 (Decidable.not_not.1 c)
        refine zT.it 1 (t := (45, [some (zR 3 0), some (zR 1 0), some (zI x2), some (zI x3), some (zI r6)], [zI 0], M6, cl6)) rfl ?_
        exact zT.ret (v := some (zI 0)) rfl (by first | exact trivial | decide) h
theorem g18_0 {M : zM} {Q : zQ} (h : Q (.inl (some (zI (M.1 5 0 0)))) M true 0) : zT 18 (0, [some (zR 3 0)], [], M, true) Q := by
  refine zT.it 3 (t := (5, [some (zR 3 0)], [zI 0, zR 5 0], M, true)) rfl ?_
  refine zT.chk (t := (6, [some (zR 3 0)], [zI (M.1 5 0 0)], M, true)) rfl (by first | decide | (dsimp only; decide)) ?_
  exact zT.ret (v := some (zI (M.1 5 0 0))) rfl (by first | exact trivial | decide) h
theorem g19_0 {a1 : Int} {M : zM} {Q : zQ} (h : (zr (M.1 6 0 2)) ∧ (M.1 6 0 2 = 1 → (zr a1 ∧ zr 70) ∧ ((a1 = 70 → Q (.inl (some (zI 1))) M true 0) ∧ (¬ (a1 = 70) → (zr a1) ∧ ((zr (z_idx a1)) ∧ (((z_idx a1) < 0 → Q (.inl (some (zI 0))) M true 0) ∧ (¬ ((z_idx a1) < 0) → Q (.inl (some (zI 1))) M true 0)))))) ∧ (M.1 6 0 2 = 4 → (zr a1 ∧ zr 80) ∧ ((¬ a1 = 80 → Q (.inl (some (zI 0))) M true 0) ∧ (a1 = 80 → Q (.inl (some (zI 1))) M true 0))) ∧ (M.1 6 0 2 = 92 → (zr a1) ∧ ((zr (z_idx a1)) ∧ (((z_idx a1) < 0 → Q (.inl (some (zI 0))) M true 0) ∧ (¬ ((z_idx a1) < 0) → Q (.inl (some (zI 1))) M true 0)))) ∧ (¬ (M.1 6 0 2 = 1) → ¬ (M.1 6 0 2 = 4) → ¬ (M.1 6 0 2 = 92) → Q (.inl (some (zI 0))) M true 0)) : zT 19 (0, [some (zR 6 0), some (zI a1)], [], M, true) Q := by
  refine zT.it 2 (t := (4, [some (zR 6 0), some (zI a1)], [zI (M.1 6 0 2)], M, true)) rfl ?_
  refine zT.it 1 (t := (xm_lsw 4 84 #[(1, 36), (4, 72), (92, 57)] (zi (M.1 6 0 2)), [some (zR 6 0), some (zI a1)], [], M, true)) rfl ?_
  obtain ⟨hx, h⟩ := h
  by_cases c1 : M.1 6 0 2 = 1
  · replace h := h.1 c1
    rw [show xm_lsw 4 84 #[(1, 36), (4, 72), (92, 57)] (zi (M.1 6 0 2)) = 40 from (by rw [c1]; rfl)]
    refine zT.it 2 (t := (43, [some (zR 6 0), some (zI a1)], [zI 70, zI a1], M, true)) rfl ?_
    refine zT.br (g := zr a1 ∧ zr 70) (p := a1 = 70) (t := (55, [some (zR 6 0), some (zI a1)], [], M, true)) (u := (46, [some (zR 6 0), some (zI a1)], [], M, true)) rfl h.1 (fun c => ?_) (fun c => ?_)
    · replace h := h.2.1 c
      refine zT.it 2 (t := (60, [some (zR 6 0), some (zI a1)], [zI 1], M, true)) rfl ?_
      exact zT.ret (v := some (zI 1)) rfl (by first | exact trivial | decide) h
    · replace h := h.2.2 c
      refine zT.it 2 (t := (49, [some (zR 6 0), some (zI a1)], [zI a1, zR 33 0], M, true)) rfl ?_
      refine zT.chk (p := zr a1) (t := (52, [some (zR 6 0), some (zI a1)], [zI (z_idx a1)], M, true)) rfl h.1 ?_
      replace h := h.2
      refine zT.br (g := zr (z_idx a1)) (p := (z_idx a1) < 0) (t := (59, [some (zR 6 0), some (zI a1)], [], M, true)) (u := (55, [some (zR 6 0), some (zI a1)], [], M, true)) rfl h.1 (fun c => ?_) (fun c => ?_)
      · replace h := h.2.1 c
        refine zT.it 1 (t := (60, [some (zR 6 0), some (zI a1)], [zI 0], M, true)) rfl ?_
        exact zT.ret (v := some (zI 0)) rfl (by first | exact trivial | decide) h
      · replace h := h.2.2 c
        refine zT.it 2 (t := (60, [some (zR 6 0), some (zI a1)], [zI 1], M, true)) rfl ?_
        exact zT.ret (v := some (zI 1)) rfl (by first | exact trivial | decide) h
  replace h := h.2
  by_cases c4 : M.1 6 0 2 = 4
  · replace h := h.1 c4
    rw [show xm_lsw 4 84 #[(1, 36), (4, 72), (92, 57)] (zi (M.1 6 0 2)) = 76 from (by rw [c4]; rfl)]
    refine zT.it 2 (t := (79, [some (zR 6 0), some (zI a1)], [zI 80, zI a1], M, true)) rfl ?_
    refine zT.br (g := zr a1 ∧ zr 80) (p := ¬ a1 = 80) (t := (86, [some (zR 6 0), some (zI a1)], [], M, true)) (u := (82, [some (zR 6 0), some (zI a1)], [], M, true)) rfl h.1 (fun c => ?_) (fun c => ?_)
    · replace h := h.2.1 c
      refine zT.it 1 (t := (87, [some (zR 6 0), some (zI a1)], [zI 0], M, true)) rfl ?_
      exact zT.ret (v := some (zI 0)) rfl (by first | exact trivial | decide) h
    · replace h := h.2.2 (Decidable.not_not.1 c)
      refine zT.it 2 (t := (87, [some (zR 6 0), some (zI a1)], [zI 1], M, true)) rfl ?_
      exact zT.ret (v := some (zI 1)) rfl (by first | exact trivial | decide) h
  replace h := h.2
  by_cases c92 : M.1 6 0 2 = 92
  · replace h := h.1 c92
    rw [show xm_lsw 4 84 #[(1, 36), (4, 72), (92, 57)] (zi (M.1 6 0 2)) = 61 from (by rw [c92]; rfl)]
    refine zT.it 2 (t := (64, [some (zR 6 0), some (zI a1)], [zI a1, zR 33 0], M, true)) rfl ?_
    refine zT.chk (p := zr a1) (t := (67, [some (zR 6 0), some (zI a1)], [zI (z_idx a1)], M, true)) rfl h.1 ?_
    replace h := h.2
    refine zT.br (g := zr (z_idx a1)) (p := (z_idx a1) < 0) (t := (74, [some (zR 6 0), some (zI a1)], [], M, true)) (u := (70, [some (zR 6 0), some (zI a1)], [], M, true)) rfl h.1 (fun c => ?_) (fun c => ?_)
    · replace h := h.2.1 c
      refine zT.it 1 (t := (75, [some (zR 6 0), some (zI a1)], [zI 0], M, true)) rfl ?_
      exact zT.ret (v := some (zI 0)) rfl (by first | exact trivial | decide) h
    · replace h := h.2.2 c
      refine zT.it 2 (t := (75, [some (zR 6 0), some (zI a1)], [zI 1], M, true)) rfl ?_
      exact zT.ret (v := some (zI 1)) rfl (by first | exact trivial | decide) h
  replace h := h.2
  replace h := h c1 c4 c92
  rw [show xm_lsw 4 84 #[(1, 36), (4, 72), (92, 57)] (zi (M.1 6 0 2)) = 88 from z_lsw_x hx (by simp; omega) rfl]
  refine zT.it 1 (t := (89, [some (zR 6 0), some (zI a1)], [zI 0], M, true)) rfl ?_
  exact zT.ret (v := some (zI 0)) rfl (by first | exact trivial | decide) h
theorem g20_0 {a1 : Int} {M : zM} {Q : zQ} (h : (zr (M.1 6 0 1) ∧ 0 ≤ (a1 - 65) ∧ (a1 - 65) < 32) ∧ ((zr (((M.1 6 0 1) / 2 ^ (a1 - 65).toNat) % 2) ∧ zr 1) ∧ ((¬ (((M.1 6 0 1) / 2 ^ (a1 - 65).toNat) % 2) = 1 → Q (.inl (some (zI 0))) M true 0) ∧ ((((M.1 6 0 1) / 2 ^ (a1 - 65).toNat) % 2) = 1 → Q (.inl (some (zI 1))) M true 0)))) : zT 20 (0, [some (zR 6 0), some (zI a1)], [], M, true) Q := by
  refine zT.it 5 (t := (8, [some (zR 6 0), some (zI a1)], [zI (a1 - 65), zI (M.1 6 0 1)], M, true)) rfl ?_
  refine zT.chk (p := zr (M.1 6 0 1) ∧ 0 ≤ (a1 - 65) ∧ (a1 - 65) < 32) (t := (9, [some (zR 6 0), some (zI a1)], [zI ((M.1 6 0 1) / 2 ^ (a1 - 65).toNat)], M, true)) rfl h.1 ?_
  replace h := h.2
  refine zT.it 1 (t := (10, [some (zR 6 0), some (zI a1)], [zI 1, zI ((M.1 6 0 1) / 2 ^ (a1 - 65).toNat)], M, true)) rfl ?_
  refine zT.chk (t := (11, [some (zR 6 0), some (zI a1)], [zI (((M.1 6 0 1) / 2 ^ (a1 - 65).toNat) % 2)], M, true)) rfl (by first | decide | (dsimp only; decide)) ?_
  refine zT.it 1 (t := (12, [some (zR 6 0), some (zI a1)], [zI 1, zI (((M.1 6 0 1) / 2 ^ (a1 - 65).toNat) % 2)], M, true)) rfl ?_
  refine zT.br (g := zr (((M.1 6 0 1) / 2 ^ (a1 - 65).toNat) % 2) ∧ zr 1) (p := ¬ (((M.1 6 0 1) / 2 ^ (a1 - 65).toNat) % 2) = 1) (t := (19, [some (zR 6 0), some (zI a1)], [], M, true)) (u := (15, [some (zR 6 0), some (zI a1)], [], M, true)) rfl h.1 (fun c => ?_) (fun c => ?_)
  · replace h := h.2.1 c
    refine zT.it 1 (t := (20, [some (zR 6 0), some (zI a1)], [zI 0], M, true)) rfl ?_
    exact zT.ret (v := some (zI 0)) rfl (by first | exact trivial | decide) h
  · replace h := h.2.2 (Decidable.not_not.1 c)
    refine zT.it 2 (t := (20, [some (zR 6 0), some (zI a1)], [zI 1], M, true)) rfl ?_
    exact zT.ret (v := some (zI 1)) rfl (by first | exact trivial | decide) h
theorem g21_0 {M : zM} {Q : zQ} (h : (zr (M.1 6 0 2) ∧ zr 1) ∧ (((M.1 6 0 2) = 1 → Q (.inl (some (zI 1))) M true 0) ∧ (¬ ((M.1 6 0 2) = 1) → (zr (M.1 6 0 2) ∧ zr 4) ∧ (((M.1 6 0 2) = 4 → Q (.inl (some (zI 1))) M true 0) ∧ (¬ ((M.1 6 0 2) = 4) → (zr (M.1 6 0 2) ∧ zr 90) ∧ (((M.1 6 0 2) = 90 → Q (.inl (some (zI 1))) M true 0) ∧ (¬ ((M.1 6 0 2) = 90) → (zr (M.1 6 0 2) ∧ zr 91) ∧ (((M.1 6 0 2) = 91 → Q (.inl (some (zI 1))) M true 0) ∧ (¬ ((M.1 6 0 2) = 91) → (zr (M.1 6 0 2) ∧ zr 92) ∧ ((¬ (M.1 6 0 2) = 92 → Q (.inl (some (zI 0))) M true 0) ∧ ((M.1 6 0 2) = 92 → Q (.inl (some (zI 1))) M true 0))))))))))) : zT 21 (0, [some (zR 6 0)], [], M, true) Q := by
  refine zT.it 3 (t := (5, [some (zR 6 0)], [zI 1, zI (M.1 6 0 2)], M, true)) rfl ?_
  refine zT.br (g := zr (M.1 6 0 2) ∧ zr 1) (p := (M.1 6 0 2) = 1) (t := (43, [some (zR 6 0)], [], M, true)) (u := (8, [some (zR 6 0)], [], M, true)) rfl h.1 (fun c => ?_) (fun c => ?_)
  · replace h := h.2.1 c
    refine zT.it 2 (t := (48, [some (zR 6 0)], [zI 1], M, true)) rfl ?_
    exact zT.ret (v := some (zI 1)) rfl (by first | exact trivial | decide) h
  · replace h := h.2.2 c
    refine zT.it 3 (t := (13, [some (zR 6 0)], [zI 4, zI (M.1 6 0 2)], M, true)) rfl ?_
    refine zT.br (g := zr (M.1 6 0 2) ∧ zr 4) (p := (M.1 6 0 2) = 4) (t := (43, [some (zR 6 0)], [], M, true)) (u := (16, [some (zR 6 0)], [], M, true)) rfl h.1 (fun c => ?_) (fun c => ?_)
    · replace h := h.2.1 c
      refine zT.it 2 (t := (48, [some (zR 6 0)], [zI 1], M, true)) rfl ?_
      exact zT.ret (v := some (zI 1)) rfl (by first | exact trivial | decide) h
    · replace h := h.2.2 c
      refine zT.it 3 (t := (22, [some (zR 6 0)], [zI 90, zI (M.1 6 0 2)], M, true)) rfl ?_
      refine zT.br (g := zr (M.1 6 0 2) ∧ zr 90) (p := (M.1 6 0 2) = 90) (t := (43, [some (zR 6 0)], [], M, true)) (u := (25, [some (zR 6 0)], [], M, true)) rfl h.1 (fun c => ?_) (fun c => ?_)
      · replace h := h.2.1 c
        refine zT.it 2 (t := (48, [some (zR 6 0)], [zI 1], M, true)) rfl ?_
        exact zT.ret (v := some (zI 1)) rfl (by first | exact trivial | decide) h
      · replace h := h.2.2 c
        refine zT.it 3 (t := (31, [some (zR 6 0)], [zI 91, zI (M.1 6 0 2)], M, true)) rfl ?_
        refine zT.br (g := zr (M.1 6 0 2) ∧ zr 91) (p := (M.1 6 0 2) = 91) (t := (43, [some (zR 6 0)], [], M, true)) (u := (34, [some (zR 6 0)], [], M, true)) rfl h.1 (fun c => ?_) (fun c => ?_)
        · replace h := h.2.1 c
          refine zT.it 2 (t := (48, [some (zR 6 0)], [zI 1], M, true)) rfl ?_
          exact zT.ret (v := some (zI 1)) rfl (by first | exact trivial | decide) h
        · replace h := h.2.2 c
          refine zT.it 3 (t := (40, [some (zR 6 0)], [zI 92, zI (M.1 6 0 2)], M, true)) rfl ?_
          refine zT.br (g := zr (M.1 6 0 2) ∧ zr 92) (p := ¬ (M.1 6 0 2) = 92) (t := (47, [some (zR 6 0)], [], M, true)) (u := (43, [some (zR 6 0)], [], M, true)) rfl h.1 (fun c => ?_) (fun c => ?_)
          · replace h := h.2.1 c
            refine zT.it 1 (t := (48, [some (zR 6 0)], [zI 0], M, true)) rfl ?_
            exact zT.ret (v := some (zI 0)) rfl (by first | exact trivial | decide) h
          · replace h := h.2.2 (Decidable.not_not.1 c)
            refine zT.it 2 (t := (48, [some (zR 6 0)], [zI 1], M, true)) rfl ?_
            exact zT.ret (v := some (zI 1)) rfl (by first | exact trivial | decide) h
theorem g22_0 {a1 : Int} {M : zM} {Q : zQ} (h : (z_wi (a1 - 65) 26) ∧ (Q (.inl (some (zI (M.1 7 0 ((a1 - 65).toNat))))) M true 0)) : zT 22 (0, [some (zR 6 0), some (zI a1)], [], M, true) Q := by
  refine zT.it 5 (t := (8, [some (zR 6 0), some (zI a1)], [zI (a1 - 65), zR 7 0], M, true)) rfl ?_
  refine zT.chk (p := z_wi (a1 - 65) 26) (t := (9, [some (zR 6 0), some (zI a1)], [zI (M.1 7 0 ((a1 - 65).toNat))], M, true)) rfl h.1 ?_
  replace h := h.2
  exact zT.ret (v := some (zI (M.1 7 0 ((a1 - 65).toNat)))) rfl (by first | exact trivial | decide) h
theorem g23_0 {a1 : Int} {a2 : Int} {M : zM} {Q : zQ} (h : zF 20 [zR 6 0, zI a1] M (fun v M1 => ∃ r1 : Int, v = some (zI r1) ∧ ∀ cl1 : Bool, (zr r1) ∧ ((r1 = 0 → Q (.inl (some (zI 1))) M1 cl1 0) ∧ (¬ (r1 = 0) → zF 22 [zR 6 0, zI a1] M1 (fun v M2 => ∃ r2 : Int, v = some (zI r2) ∧ ∀ cl2 : Bool, (zr r2 ∧ zr 1) ∧ ((r2 < 1 → Q (.inl (some (zI 0))) M2 cl2 0) ∧ (¬ (r2 < 1) → zF 22 [zR 6 0, zI a1] M2 (fun v M3 => ∃ r3 : Int, v = some (zI r3) ∧ ∀ cl3 : Bool, (zr r3 ∧ zr a2) ∧ ((a2 < r3 → Q (.inl (some (zI 0))) M3 cl3 0) ∧ (¬ (a2 < r3) → Q (.inl (some (zI 1))) M3 cl3 0)))))))))) : zT 23 (0, [some (zR 6 0), some (zI a1), some (zI a2)], [], M, true) Q := by
  refine zT.it 2 (t := (2, [some (zR 6 0), some (zI a1), some (zI a2)], [zI a1, zR 6 0], M, true)) rfl ?_
  refine zT.call (m := 20) (as := [zR 6 0, zI a1]) (M := M) (L := [some (zR 6 0), some (zI a1), some (zI a2)]) (st := []) (pn := 5) (cl := true) rfl ?_
  refine zF.mono h (fun v M1 h cl1 => ?_)
  obtain ⟨r1, e1, h⟩ := h; subst e1; replace h := h cl1
  show zT 23 (5, [some (zR 6 0), some (zI a1), some (zI a2)], [zI r1], M1, cl1) _
  refine zT.br (g := zr r1) (p := r1 = 0) (t := (26, [some (zR 6 0), some (zI a1), some (zI a2)], [], M1, cl1)) (u := (8, [some (zR 6 0), some (zI a1), some (zI a2)], [], M1, cl1)) rfl h.1 (fun c => ?_) (fun c => ?_)
  · replace h := h.2.1 c
    refine zT.it 2 (t := (31, [some (zR 6 0), some (zI a1), some (zI a2)], [zI 1], M1, cl1)) rfl ?_
    exact zT.ret (v := some (zI 1)) rfl (by first | exact trivial | decide) h
  · replace h := h.2.2 c
    refine zT.it 2 (t := (10, [some (zR 6 0), some (zI a1), some (zI a2)], [zI a1, zR 6 0], M1, cl1)) rfl ?_
    refine zT.call (m := 22) (as := [zR 6 0, zI a1]) (M := M1) (L := [some (zR 6 0), some (zI a1), some (zI a2)]) (st := []) (pn := 13) (cl := cl1) rfl ?_
    refine zF.mono h (fun v M2 h cl2 => ?_)
    obtain ⟨r2, e2, h⟩ := h; subst e2; replace h := h cl2
    show zT 23 (13, [some (zR 6 0), some (zI a1), some (zI a2)], [zI r2], M2, cl2) _
    refine zT.it 1 (t := (14, [some (zR 6 0), some (zI a1), some (zI a2)], [zI 1, zI r2], M2, cl2)) rfl ?_
    refine zT.br (g := zr r2 ∧ zr 1) (p := r2 < 1) (t := (30, [some (zR 6 0), some (zI a1), some (zI a2)], [], M2, cl2)) (u := (17, [some (zR 6 0), some (zI a1), some (zI a2)], [], M2, cl2)) rfl h.1 (fun c => ?_) (fun c => ?_)
    · replace h := h.2.1 c
      refine zT.it 1 (t := (31, [some (zR 6 0), some (zI a1), some (zI a2)], [zI 0], M2, cl2)) rfl ?_
      exact zT.ret (v := some (zI 0)) rfl (by first | exact trivial | decide) h
    · replace h := h.2.2 c
      refine zT.it 2 (t := (19, [some (zR 6 0), some (zI a1), some (zI a2)], [zI a1, zR 6 0], M2, cl2)) rfl ?_
      refine zT.call (m := 22) (as := [zR 6 0, zI a1]) (M := M2) (L := [some (zR 6 0), some (zI a1), some (zI a2)]) (st := []) (pn := 22) (cl := cl2) rfl ?_
      refine zF.mono h (fun v M3 h cl3 => ?_)
      obtain ⟨r3, e3, h⟩ := h; subst e3; replace h := h cl3
      show zT 23 (22, [some (zR 6 0), some (zI a1), some (zI a2)], [zI r3], M3, cl3) _
      refine zT.it 1 (t := (23, [some (zR 6 0), some (zI a1), some (zI a2)], [zI a2, zI r3], M3, cl3)) rfl ?_
      refine zT.br (g := zr r3 ∧ zr a2) (p := a2 < r3) (t := (30, [some (zR 6 0), some (zI a1), some (zI a2)], [], M3, cl3)) (u := (26, [some (zR 6 0), some (zI a1), some (zI a2)], [], M3, cl3)) rfl h.1 (fun c => ?_) (fun c => ?_)
      · replace h := h.2.1 c
        refine zT.it 1 (t := (31, [some (zR 6 0), some (zI a1), some (zI a2)], [zI 0], M3, cl3)) rfl ?_
        exact zT.ret (v := some (zI 0)) rfl (by first | exact trivial | decide) h
      · replace h := h.2.2 c
        refine zT.it 2 (t := (31, [some (zR 6 0), some (zI a1), some (zI a2)], [zI 1], M3, cl3)) rfl ?_
        exact zT.ret (v := some (zI 1)) rfl (by first | exact trivial | decide) h
theorem g24_0 {M : zM} {Q : zQ} (h : (zr (M.1 6 0 2) ∧ zr 4) ∧ ((¬ (M.1 6 0 2) = 4 → zF 23 [zR 6 0, zI 80, zI 200] M (fun v M1 => ∃ r1 : Int, v = some (zI r1) ∧ ∀ cl1 : Bool, (zr r1) ∧ ((r1 = 0 → Q (.inl (some (zI 0))) M1 cl1 0) ∧ (¬ (r1 = 0) → zF 23 [zR 6 0, zI 70, zI 1000] M1 (fun v M2 => ∃ r2 : Int, v = some (zI r2) ∧ ∀ cl2 : Bool, (zr r2) ∧ ((r2 = 0 → Q (.inl (some (zI 0))) M2 cl2 0) ∧ (¬ (r2 = 0) → Q (.inl (some (zI 1))) M2 cl2 0))))))) ∧ ((M.1 6 0 2) = 4 → zF 20 [zR 6 0, zI 80] M (fun v M3 => ∃ r3 : Int, v = some (zI r3) ∧ ∀ cl3 : Bool, (zr r3) ∧ ((¬ r3 = 0 → zF 23 [zR 6 0, zI 80, zI 200] M3 (fun v M4 => ∃ r4 : Int, v = some (zI r4) ∧ ∀ cl4 : Bool, (zr r4) ∧ ((r4 = 0 → Q (.inl (some (zI 0))) M4 cl4 0) ∧ (¬ (r4 = 0) → zF 23 [zR 6 0, zI 70, zI 1000] M4 (fun v M5 => ∃ r5 : Int, v = some (zI r5) ∧ ∀ cl5 : Bool, (zr r5) ∧ ((r5 = 0 → Q (.inl (some (zI 0))) M5 cl5 0) ∧ (¬ (r5 = 0) → Q (.inl (some (zI 1))) M5 cl5 0))))))) ∧ (r3 = 0 → Q (.inl (some (zI 0))) M3 cl3 0)))))) : zT 24 (0, [some (zR 6 0)], [], M, true) Q := by
  refine zT.it 3 (t := (5, [some (zR 6 0)], [zI 4, zI (M.1 6 0 2)], M, true)) rfl ?_
  refine zT.br (g := zr (M.1 6 0 2) ∧ zr 4) (p := ¬ (M.1 6 0 2) = 4) (t := (19, [some (zR 6 0)], [], M, true)) (u := (8, [some (zR 6 0)], [], M, true)) rfl h.1 (fun c => ?_) (fun c => ?_)
  · replace h := h.2.1 c
    refine zT.it 3 (t := (25, [some (zR 6 0)], [zI 200, zI 80, zR 6 0], M, true)) rfl ?_
    refine zT.call (m := 23) (as := [zR 6 0, zI 80, zI 200]) (M := M) (L := [some (zR 6 0)]) (st := []) (pn := 28) (cl := true) rfl ?_
    refine zF.mono h (fun v M1 h cl1 => ?_)
    obtain ⟨r1, e1, h⟩ := h; subst e1; replace h := h cl1
    show zT 24 (28, [some (zR 6 0)], [zI r1], M1, cl1) _
    refine zT.br (g := zr r1) (p := r1 = 0) (t := (47, [some (zR 6 0)], [], M1, cl1)) (u := (31, [some (zR 6 0)], [], M1, cl1)) rfl h.1 (fun c => ?_) (fun c => ?_)
    · replace h := h.2.1 c
      refine zT.it 1 (t := (48, [some (zR 6 0)], [zI 0], M1, cl1)) rfl ?_
      exact zT.ret (v := some (zI 0)) rfl (by first | exact trivial | decide) h
    · replace h := h.2.2 c
      refine zT.it 3 (t := (37, [some (zR 6 0)], [zI 1000, zI 70, zR 6 0], M1, cl1)) rfl ?_
      refine zT.call (m := 23) (as := [zR 6 0, zI 70, zI 1000]) (M := M1) (L := [some (zR 6 0)]) (st := []) (pn := 40) (cl := cl1) rfl ?_
      refine zF.mono h (fun v M2 h cl2 => ?_)
      obtain ⟨r2, e2, h⟩ := h; subst e2; replace h := h cl2
      show zT 24 (40, [some (zR 6 0)], [zI r2], M2, cl2) _
      refine zT.br (g := zr r2) (p := r2 = 0) (t := (47, [some (zR 6 0)], [], M2, cl2)) (u := (43, [some (zR 6 0)], [], M2, cl2)) rfl h.1 (fun c => ?_) (fun c => ?_)
      · replace h := h.2.1 c
        refine zT.it 1 (t := (48, [some (zR 6 0)], [zI 0], M2, cl2)) rfl ?_
        exact zT.ret (v := some (zI 0)) rfl (by first | exact trivial | decide) h
      · replace h := h.2.2 c
        refine zT.it 2 (t := (48, [some (zR 6 0)], [zI 1], M2, cl2)) rfl ?_
        exact zT.ret (v := some (zI 1)) rfl (by first | exact trivial | decide) h
  · replace h := h.2.2 (Decidable.not_not.1 c)
    refine zT.it 2 (t := (11, [some (zR 6 0)], [zI 80, zR 6 0], M, true)) rfl ?_
    refine zT.call (m := 20) (as := [zR 6 0, zI 80]) (M := M) (L := [some (zR 6 0)]) (st := []) (pn := 14) (cl := true) rfl ?_
    refine zF.mono h (fun v M3 h cl3 => ?_)
    obtain ⟨r3, e3, h⟩ := h; subst e3; replace h := h cl3
    show zT 24 (14, [some (zR 6 0)], [zI r3], M3, cl3) _
    refine zT.br (g := zr r3) (p := ¬ r3 = 0) (t := (19, [some (zR 6 0)], [], M3, cl3)) (u := (17, [some (zR 6 0)], [], M3, cl3)) rfl h.1 (fun c => ?_) (fun c => ?_)
    · replace h := h.2.1 c
      refine zT.it 3 (t := (25, [some (zR 6 0)], [zI 200, zI 80, zR 6 0], M3, cl3)) rfl ?_
      refine zT.call (m := 23) (as := [zR 6 0, zI 80, zI 200]) (M := M3) (L := [some (zR 6 0)]) (st := []) (pn := 28) (cl := cl3) rfl ?_
      refine zF.mono h (fun v M4 h cl4 => ?_)
      obtain ⟨r4, e4, h⟩ := h; subst e4; replace h := h cl4
      show zT 24 (28, [some (zR 6 0)], [zI r4], M4, cl4) _
      refine zT.br (g := zr r4) (p := r4 = 0) (t := (47, [some (zR 6 0)], [], M4, cl4)) (u := (31, [some (zR 6 0)], [], M4, cl4)) rfl h.1 (fun c => ?_) (fun c => ?_)
      · replace h := h.2.1 c
        refine zT.it 1 (t := (48, [some (zR 6 0)], [zI 0], M4, cl4)) rfl ?_
        exact zT.ret (v := some (zI 0)) rfl (by first | exact trivial | decide) h
      · replace h := h.2.2 c
        refine zT.it 3 (t := (37, [some (zR 6 0)], [zI 1000, zI 70, zR 6 0], M4, cl4)) rfl ?_
        refine zT.call (m := 23) (as := [zR 6 0, zI 70, zI 1000]) (M := M4) (L := [some (zR 6 0)]) (st := []) (pn := 40) (cl := cl4) rfl ?_
        refine zF.mono h (fun v M5 h cl5 => ?_)
        obtain ⟨r5, e5, h⟩ := h; subst e5; replace h := h cl5
        show zT 24 (40, [some (zR 6 0)], [zI r5], M5, cl5) _
        refine zT.br (g := zr r5) (p := r5 = 0) (t := (47, [some (zR 6 0)], [], M5, cl5)) (u := (43, [some (zR 6 0)], [], M5, cl5)) rfl h.1 (fun c => ?_) (fun c => ?_)
        · replace h := h.2.1 c
          refine zT.it 1 (t := (48, [some (zR 6 0)], [zI 0], M5, cl5)) rfl ?_
          exact zT.ret (v := some (zI 0)) rfl (by first | exact trivial | decide) h
        · replace h := h.2.2 c
          refine zT.it 2 (t := (48, [some (zR 6 0)], [zI 1], M5, cl5)) rfl ?_
          exact zT.ret (v := some (zI 1)) rfl (by first | exact trivial | decide) h
    · replace h := h.2.2 (Decidable.not_not.1 c)
      refine zT.it 1 (t := (18, [some (zR 6 0)], [zI 0], M3, cl3)) rfl ?_
      exact zT.ret (v := some (zI 0)) rfl (by first | exact trivial | decide) h
theorem g25_0 {M : zM} {Q : zQ} (h : (zr (M.1 3 0 2) ∧ zr 2) ∧ (((M.1 3 0 2) < 2 → Q (.inl (some (zI 0))) (z_w M 6 0 1 0) false 0) ∧ (¬ ((M.1 3 0 2) < 2) → (zr (M.1 4 0 1) ∧ zr 71) ∧ (((M.1 4 0 1) = 71 → zT 25 (38, [some (zR 6 0), some (zR 3 0), some (zI 2), none], [], (z_w (z_w M 6 0 1 0) 6 0 2 (M.1 5 0 1)), false) Q) ∧ (¬ ((M.1 4 0 1) = 71) → Q (.inl (some (zI 0))) (z_w M 6 0 1 0) false 0))))) : zT 25 (0, [some (zR 6 0), some (zR 3 0), none, none], [], M, true) Q := by
  refine zT.it 6 (t := (10, [some (zR 6 0), some (zR 3 0), none, none], [zI 2, zI (M.1 3 0 2)], (z_w M 6 0 1 0), false)) rfl ?_
  refine zT.br (g := zr (M.1 3 0 2) ∧ zr 2) (p := (M.1 3 0 2) < 2) (t := (24, [some (zR 6 0), some (zR 3 0), none, none], [], (z_w M 6 0 1 0), false)) (u := (13, [some (zR 6 0), some (zR 3 0), none, none], [], (z_w M 6 0 1 0), false)) rfl h.1 (fun c => ?_) (fun c => ?_)
  · replace h := h.2.1 c
    refine zT.it 1 (t := (25, [some (zR 6 0), some (zR 3 0), none, none], [zI 0], (z_w M 6 0 1 0), false)) rfl ?_
    exact zT.ret (v := some (zI 0)) rfl (by first | exact trivial | decide) h
  · replace h := h.2.2 c
    refine zT.it 3 (t := (18, [some (zR 6 0), some (zR 3 0), none, none], [zI 1, zR 4 0], (z_w M 6 0 1 0), false)) rfl ?_
    refine zT.chk (t := (19, [some (zR 6 0), some (zR 3 0), none, none], [zI (M.1 4 0 1)], (z_w M 6 0 1 0), false)) rfl (by first | decide | (dsimp only; decide)) ?_
    refine zT.it 1 (t := (21, [some (zR 6 0), some (zR 3 0), none, none], [zI 71, zI (M.1 4 0 1)], (z_w M 6 0 1 0), false)) rfl ?_
    refine zT.br (g := zr (M.1 4 0 1) ∧ zr 71) (p := (M.1 4 0 1) = 71) (t := (26, [some (zR 6 0), some (zR 3 0), none, none], [], (z_w M 6 0 1 0), false)) (u := (24, [some (zR 6 0), some (zR 3 0), none, none], [], (z_w M 6 0 1 0), false)) rfl h.1 (fun c => ?_) (fun c => ?_)
    · replace h := h.2.1 c
      refine zT.it 4 (t := (32, [some (zR 6 0), some (zR 3 0), none, none], [zI 1, zR 5 0, zR 6 0], (z_w M 6 0 1 0), false)) rfl ?_
      refine zT.chk (t := (33, [some (zR 6 0), some (zR 3 0), none, none], [zI (M.1 5 0 1), zR 6 0], (z_w M 6 0 1 0), false)) rfl (by first | decide | (dsimp only; decide)) ?_
      refine zT.it 3 (t := (38, [some (zR 6 0), some (zR 3 0), some (zI 2), none], [], (z_w (z_w M 6 0 1 0) 6 0 2 (M.1 5 0 1)), false)) rfl ?_
      exact h
    · replace h := h.2.2 c
      refine zT.it 1 (t := (25, [some (zR 6 0), some (zR 3 0), none, none], [zI 0], (z_w M 6 0 1 0), false)) rfl ?_
      exact zT.ret (v := some (zI 0)) rfl (by first | exact trivial | decide) h
