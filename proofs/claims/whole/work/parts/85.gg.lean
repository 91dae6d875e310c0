-- what each piece of the program asks (written by gen/g.py out of the program itself)
theorem g90_0 {a1 : Int} {a2 : Int} {a3 : Int} {M : zM} {Q : zQ} (h : (zr a1 ∧ zr (M.1 18 0 15)) ∧ (((M.1 18 0 15) ≤ a1 → (zr a1 ∧ zr (M.1 18 0 15)) ∧ ((a1 < (M.1 18 0 15) → Q (.inl (some (zJ a3))) M true 0) ∧ (¬ (a1 < (M.1 18 0 15)) → Q (.inl (some (zJ 0))) M true 0))) ∧ (¬ ((M.1 18 0 15) ≤ a1) → (zr a1 ∧ zr a2) ∧ ((¬ a1 = a2 → zT 90 (35, [some (zR 18 0), some (zI a1), some (zI a2), some (zJ a3), none, some (zJ 1152921504606846976), none, some (zI a2), none, none, none, none, none], [], M, true) Q) ∧ (a1 = a2 → (zr a1 ∧ zr (M.1 18 0 15)) ∧ ((a1 < (M.1 18 0 15) → Q (.inl (some (zJ a3))) M true 0) ∧ (¬ (a1 < (M.1 18 0 15)) → Q (.inl (some (zJ 0))) M true 0))))))) : zT 90 (0, [some (zR 18 0), some (zI a1), some (zI a2), some (zJ a3), none, none, none, none, none, none, none, none, none], [], M, true) Q := by
  refine zT.it 3 (t := (5, [some (zR 18 0), some (zI a1), some (zI a2), some (zJ a3), none, none, none, none, none, none, none, none, none], [zI (M.1 18 0 15), zI a1], M, true)) rfl ?_
  refine zT.br (g := zr a1 ∧ zr (M.1 18 0 15)) (p := (M.1 18 0 15) ≤ a1) (t := (13, [some (zR 18 0), some (zI a1), some (zI a2), some (zJ a3), none, none, none, none, none, none, none, none, none], [], M, true)) (u := (8, [some (zR 18 0), some (zI a1), some (zI a2), some (zJ a3), none, none, none, none, none, none, none, none, none], [], M, true)) rfl h.1 (fun c => ?_) (fun c => ?_)
  · replace h := h.2.1 c
    refine zT.it 3 (t := (18, [some (zR 18 0), some (zI a1), some (zI a2), some (zJ a3), none, none, none, none, none, none, none, none, none], [zI (M.1 18 0 15), zI a1], M, true)) rfl ?_
    refine zT.br (g := zr a1 ∧ zr (M.1 18 0 15)) (p := a1 < (M.1 18 0 15)) (t := (25, [some (zR 18 0), some (zI a1), some (zI a2), some (zJ a3), none, none, none, none, none, none, none, none, none], [], M, true)) (u := (21, [some (zR 18 0), some (zI a1), some (zI a2), some (zJ a3), none, none, none, none, none, none, none, none, none], [], M, true)) rfl h.1 (fun c => ?_) (fun c => ?_)
    · replace h := h.2.1 c
      refine zT.it 1 (t := (26, [some (zR 18 0), some (zI a1), some (zI a2), some (zJ a3), none, none, none, none, none, none, none, none, none], [zJ a3], M, true)) rfl ?_
      exact zT.ret (v := some (zJ a3)) rfl trivial h
    · replace h := h.2.2 c
      refine zT.it 2 (t := (26, [some (zR 18 0), some (zI a1), some (zI a2), some (zJ a3), none, none, none, none, none, none, none, none, none], [zJ 0], M, true)) rfl ?_
      exact zT.ret (v := some (zJ 0)) rfl trivial h
  · replace h := h.2.2 c
    refine zT.it 2 (t := (10, [some (zR 18 0), some (zI a1), some (zI a2), some (zJ a3), none, none, none, none, none, none, none, none, none], [zI a2, zI a1], M, true)) rfl ?_
    refine zT.br (g := zr a1 ∧ zr a2) (p := ¬ a1 = a2) (t := (27, [some (zR 18 0), some (zI a1), some (zI a2), some (zJ a3), none, none, none, none, none, none, none, none, none], [], M, true)) (u := (13, [some (zR 18 0), some (zI a1), some (zI a2), some (zJ a3), none, none, none, none, none, none, none, none, none], [], M, true)) rfl h.1 (fun c => ?_) (fun c => ?_)
    · replace h := h.2.1 c
      refine zT.it 4 (t := (35, [some (zR 18 0), some (zI a1), some (zI a2), some (zJ a3), none, some (zJ 1152921504606846976), none, some (zI a2), none, none, none, none, none], [], M, true)) rfl ?_
      exact h
    · replace h := h.2.2 (Decidable.not_not.1 c)
      refine zT.it 3 (t := (18, [some (zR 18 0), some (zI a1), some (zI a2), some (zJ a3), none, none, none, none, none, none, none, none, none], [zI (M.1 18 0 15), zI a1], M, true)) rfl ?_
      refine zT.br (g := zr a1 ∧ zr (M.1 18 0 15)) (p := a1 < (M.1 18 0 15)) (t := (25, [some (zR 18 0), some (zI a1), some (zI a2), some (zJ a3), none, none, none, none, none, none, none, none, none], [], M, true)) (u := (21, [some (zR 18 0), some (zI a1), some (zI a2), some (zJ a3), none, none, none, none, none, none, none, none, none], [], M, true)) rfl h.1 (fun c => ?_) (fun c => ?_)
      · replace h := h.2.1 c
        refine zT.it 1 (t := (26, [some (zR 18 0), some (zI a1), some (zI a2), some (zJ a3), none, none, none, none, none, none, none, none, none], [zJ a3], M, true)) rfl ?_
        exact zT.ret (v := some (zJ a3)) rfl trivial h
      · replace h := h.2.2 c
        refine zT.it 2 (t := (26, [some (zR 18 0), some (zI a1), some (zI a2), some (zJ a3), none, none, none, none, none, none, none, none, none], [zJ 0], M, true)) rfl ?_
        exact zT.ret (v := some (zJ 0)) rfl trivial h
theorem g90_35 {x1 : Int} {x2 : Int} {x3 : Int} {x5 : Int} {x7 : Int} {u8 : Option zV} {u9 : Option zV} {u10 : Option zV} {u11 : Option zV} {u12 : Option zV} {M : zM} {cl : Bool} {Q : zQ} (h : (zr x7 ∧ zr (M.1 18 0 15)) ∧ (((M.1 18 0 15) < x7 → Q (.inl (some (zJ x5))) M cl 0) ∧ (¬ ((M.1 18 0 15) < x7) → (zr x7 ∧ zr (M.1 18 0 15)) ∧ ((¬ x7 = (M.1 18 0 15) → (zr x7 ∧ zr x2) ∧ ((¬ x7 = x2 → zF 88 [zR 18 0, zI x7] M (fun v M1 => ∃ r1 : Int, v = some (zJ r1) ∧ ∀ cl1 : Bool, (zr x1 ∧ zr x7) ∧ ((x7 ≤ x1 → (zr x1 ∧ zr x7) ∧ ((x7 ≤ x1 → zT 90 (107, [some (zR 18 0), some (zI x1), some (zI x2), some (zJ x3), none, some (zJ x5), none, some (zI x7), some (zJ r1), none, some (zI x7), some (zI x1), some (zI x7)], [], M1, cl1) Q) ∧ (¬ (x7 ≤ x1) → zT 90 (107, [some (zR 18 0), some (zI x1), some (zI x2), some (zJ x3), none, some (zJ x5), none, some (zI x7), some (zJ r1), none, some (zI x7), some (zI x7), some (zI x7)], [], M1, cl1) Q))) ∧ (¬ (x7 ≤ x1) → (zr x1 ∧ zr x7) ∧ ((x7 ≤ x1 → zT 90 (107, [some (zR 18 0), some (zI x1), some (zI x2), some (zJ x3), none, some (zJ x5), none, some (zI x7), some (zJ r1), none, some (zI x1), some (zI x1), some (zI x1)], [], M1, cl1) Q) ∧ (¬ (x7 ≤ x1) → zT 90 (107, [some (zR 18 0), some (zI x1), some (zI x2), some (zJ x3), none, some (zJ x5), none, some (zI x7), some (zJ r1), none, some (zI x1), some (zI x7), some (zI x1)], [], M1, cl1) Q)))))) ∧ (x7 = x2 → (zr x1 ∧ zr x7) ∧ ((x7 ≤ x1 → (zr x1 ∧ zr x7) ∧ ((x7 ≤ x1 → zT 90 (107, [some (zR 18 0), some (zI x1), some (zI x2), some (zJ x3), none, some (zJ x5), none, some (zI x7), some (zJ x3), none, some (zI x7), some (zI x1), some (zI x7)], [], M, cl) Q) ∧ (¬ (x7 ≤ x1) → zT 90 (107, [some (zR 18 0), some (zI x1), some (zI x2), some (zJ x3), none, some (zJ x5), none, some (zI x7), some (zJ x3), none, some (zI x7), some (zI x7), some (zI x7)], [], M, cl) Q))) ∧ (¬ (x7 ≤ x1) → (zr x1 ∧ zr x7) ∧ ((x7 ≤ x1 → zT 90 (107, [some (zR 18 0), some (zI x1), some (zI x2), some (zJ x3), none, some (zJ x5), none, some (zI x7), some (zJ x3), none, some (zI x1), some (zI x1), some (zI x1)], [], M, cl) Q) ∧ (¬ (x7 ≤ x1) → zT 90 (107, [some (zR 18 0), some (zI x1), some (zI x2), some (zJ x3), none, some (zJ x5), none, some (zI x7), some (zJ x3), none, some (zI x1), some (zI x7), some (zI x1)], [], M, cl) Q))))))) ∧ (x7 = (M.1 18 0 15) → (zr x1 ∧ zr x7) ∧ ((x7 ≤ x1 → (zr x1 ∧ zr x7) ∧ ((x7 ≤ x1 → zT 90 (107, [some (zR 18 0), some (zI x1), some (zI x2), some (zJ x3), none, some (zJ x5), none, some (zI x7), some (zJ 0), none, some (zI x7), some (zI x1), some (zI x7)], [], M, cl) Q) ∧ (¬ (x7 ≤ x1) → zT 90 (107, [some (zR 18 0), some (zI x1), some (zI x2), some (zJ x3), none, some (zJ x5), none, some (zI x7), some (zJ 0), none, some (zI x7), some (zI x7), some (zI x7)], [], M, cl) Q))) ∧ (¬ (x7 ≤ x1) → (zr x1 ∧ zr x7) ∧ ((x7 ≤ x1 → zT 90 (107, [some (zR 18 0), some (zI x1), some (zI x2), some (zJ x3), none, some (zJ x5), none, some (zI x7), some (zJ 0), none, some (zI x1), some (zI x1), some (zI x1)], [], M, cl) Q) ∧ (¬ (x7 ≤ x1) → zT 90 (107, [some (zR 18 0), some (zI x1), some (zI x2), some (zJ x3), none, some (zJ x5), none, some (zI x7), some (zJ 0), none, some (zI x1), some (zI x7), some (zI x1)], [], M, cl) Q))))))))) : zT 90 (35, [some (zR 18 0), some (zI x1), some (zI x2), some (zJ x3), none, some (zJ x5), none, some (zI x7), u8, u9, u10, u11, u12], [], M, cl) Q := by
  refine zT.it 3 (t := (41, [some (zR 18 0), some (zI x1), some (zI x2), some (zJ x3), none, some (zJ x5), none, some (zI x7), u8, u9, u10, u11, u12], [zI (M.1 18 0 15), zI x7], M, cl)) rfl ?_
  refine zT.br (g := zr x7 ∧ zr (M.1 18 0 15)) (p := (M.1 18 0 15) < x7) (t := (165, [some (zR 18 0), some (zI x1), some (zI x2), some (zJ x3), none, some (zJ x5), none, some (zI x7), u8, u9, u10, u11, u12], [], M, cl)) (u := (44, [some (zR 18 0), some (zI x1), some (zI x2), some (zJ x3), none, some (zJ x5), none, some (zI x7), u8, u9, u10, u11, u12], [], M, cl)) rfl h.1 (fun c => ?_) (fun c => ?_)
  · replace h := h.2.1 c
    refine zT.it 1 (t := (167, [some (zR 18 0), some (zI x1), some (zI x2), some (zJ x3), none, some (zJ x5), none, some (zI x7), u8, u9, u10, u11, u12], [zJ x5], M, cl)) rfl ?_
    exact zT.ret (v := some (zJ x5)) rfl trivial h
  · replace h := h.2.2 c
    refine zT.it 3 (t := (50, [some (zR 18 0), some (zI x1), some (zI x2), some (zJ x3), none, some (zJ x5), none, some (zI x7), u8, u9, u10, u11, u12], [zI (M.1 18 0 15), zI x7], M, cl)) rfl ?_
    refine zT.br (g := zr x7 ∧ zr (M.1 18 0 15)) (p := ¬ x7 = (M.1 18 0 15)) (t := (57, [some (zR 18 0), some (zI x1), some (zI x2), some (zJ x3), none, some (zJ x5), none, some (zI x7), u8, u9, u10, u11, u12], [], M, cl)) (u := (53, [some (zR 18 0), some (zI x1), some (zI x2), some (zJ x3), none, some (zJ x5), none, some (zI x7), u8, u9, u10, u11, u12], [], M, cl)) rfl h.1 (fun c => ?_) (fun c => ?_)
    · replace h := h.2.1 c
      refine zT.it 2 (t := (60, [some (zR 18 0), some (zI x1), some (zI x2), some (zJ x3), none, some (zJ x5), none, some (zI x7), u8, u9, u10, u11, u12], [zI x2, zI x7], M, cl)) rfl ?_
      refine zT.br (g := zr x7 ∧ zr x2) (p := ¬ x7 = x2) (t := (67, [some (zR 18 0), some (zI x1), some (zI x2), some (zJ x3), none, some (zJ x5), none, some (zI x7), u8, u9, u10, u11, u12], [], M, cl)) (u := (63, [some (zR 18 0), some (zI x1), some (zI x2), some (zJ x3), none, some (zJ x5), none, some (zI x7), u8, u9, u10, u11, u12], [], M, cl)) rfl h.1 (fun c => ?_) (fun c => ?_)
      · replace h := h.2.1 c
        refine zT.it 2 (t := (70, [some (zR 18 0), some (zI x1), some (zI x2), some (zJ x3), none, some (zJ x5), none, some (zI x7), u8, u9, u10, u11, u12], [zI x7, zR 18 0], M, cl)) rfl ?_
        refine zT.call (m := 88) (as := [zR 18 0, zI x7]) (M := M) (L := [some (zR 18 0), some (zI x1), some (zI x2), some (zJ x3), none, some (zJ x5), none, some (zI x7), u8, u9, u10, u11, u12]) (st := []) (pn := 73) (cl := cl) rfl ?_
        refine zF.mono h (fun v M1 h cl1 => ?_)
        obtain ⟨r1, e1, h⟩ := h; subst e1; replace h := h cl1
        show zT 90 (73, [some (zR 18 0), some (zI x1), some (zI x2), some (zJ x3), none, some (zJ x5), none, some (zI x7), u8, u9, u10, u11, u12], [zJ r1], M1, cl1) _
        refine zT.it 3 (t := (78, [some (zR 18 0), some (zI x1), some (zI x2), some (zJ x3), none, some (zJ x5), none, some (zI x7), some (zJ r1), none, u10, u11, u12], [zI x7, zI x1], M1, cl1)) rfl ?_
        refine zT.br (g := zr x1 ∧ zr x7) (p := x7 ≤ x1) (t := (85, [some (zR 18 0), some (zI x1), some (zI x2), some (zJ x3), none, some (zJ x5), none, some (zI x7), some (zJ r1), none, u10, u11, u12], [], M1, cl1)) (u := (81, [some (zR 18 0), some (zI x1), some (zI x2), some (zJ x3), none, some (zJ x5), none, some (zI x7), some (zJ r1), none, u10, u11, u12], [], M1, cl1)) rfl h.1 (fun c => ?_) (fun c => ?_)
        · replace h := h.2.1 c
          refine zT.it 4 (t := (92, [some (zR 18 0), some (zI x1), some (zI x2), some (zJ x3), none, some (zJ x5), none, some (zI x7), some (zJ r1), none, some (zI x7), u11, u12], [zI x7, zI x1], M1, cl1)) rfl ?_
          refine zT.br (g := zr x1 ∧ zr x7) (p := x7 ≤ x1) (t := (100, [some (zR 18 0), some (zI x1), some (zI x2), some (zJ x3), none, some (zJ x5), none, some (zI x7), some (zJ r1), none, some (zI x7), u11, u12], [], M1, cl1)) (u := (95, [some (zR 18 0), some (zI x1), some (zI x2), some (zJ x3), none, some (zJ x5), none, some (zI x7), some (zJ r1), none, some (zI x7), u11, u12], [], M1, cl1)) rfl h.1 (fun c => ?_) (fun c => ?_)
          · replace h := h.2.1 c
            refine zT.it 4 (t := (107, [some (zR 18 0), some (zI x1), some (zI x2), some (zJ x3), none, some (zJ x5), none, some (zI x7), some (zJ r1), none, some (zI x7), some (zI x1), some (zI x7)], [], M1, cl1)) rfl ?_
            exact h
          · replace h := h.2.2 c
            refine zT.it 5 (t := (107, [some (zR 18 0), some (zI x1), some (zI x2), some (zJ x3), none, some (zJ x5), none, some (zI x7), some (zJ r1), none, some (zI x7), some (zI x7), some (zI x7)], [], M1, cl1)) rfl ?_
            exact h
        · replace h := h.2.2 c
          refine zT.it 5 (t := (92, [some (zR 18 0), some (zI x1), some (zI x2), some (zJ x3), none, some (zJ x5), none, some (zI x7), some (zJ r1), none, some (zI x1), u11, u12], [zI x7, zI x1], M1, cl1)) rfl ?_
          refine zT.br (g := zr x1 ∧ zr x7) (p := x7 ≤ x1) (t := (100, [some (zR 18 0), some (zI x1), some (zI x2), some (zJ x3), none, some (zJ x5), none, some (zI x7), some (zJ r1), none, some (zI x1), u11, u12], [], M1, cl1)) (u := (95, [some (zR 18 0), some (zI x1), some (zI x2), some (zJ x3), none, some (zJ x5), none, some (zI x7), some (zJ r1), none, some (zI x1), u11, u12], [], M1, cl1)) rfl h.1 (fun c => ?_) (fun c => ?_)
          · replace h := h.2.1 c
            refine zT.it 4 (t := (107, [some (zR 18 0), some (zI x1), some (zI x2), some (zJ x3), none, some (zJ x5), none, some (zI x7), some (zJ r1), none, some (zI x1), some (zI x1), some (zI x1)], [], M1, cl1)) rfl ?_
            exact h
          · replace h := h.2.2 c
            refine zT.it 5 (t := (107, [some (zR 18 0), some (zI x1), some (zI x2), some (zJ x3), none, some (zJ x5), none, some (zI x7), some (zJ r1), none, some (zI x1), some (zI x7), some (zI x1)], [], M1, cl1)) rfl ?_
            exact h
      · replace h := h.2.2 (Decidable.not_not.1 c)
        refine zT.it 5 (t := (78, [some (zR 18 0), some (zI x1), some (zI x2), some (zJ x3), none, some (zJ x5), none, some (zI x7), some (zJ x3), none, u10, u11, u12], [zI x7, zI x1], M, cl)) rfl ?_
        refine zT.br (g := zr x1 ∧ zr x7) (p := x7 ≤ x1) (t := (85, [some (zR 18 0), some (zI x1), some (zI x2), some (zJ x3), none, some (zJ x5), none, some (zI x7), some (zJ x3), none, u10, u11, u12], [], M, cl)) (u := (81, [some (zR 18 0), some (zI x1), some (zI x2), some (zJ x3), none, some (zJ x5), none, some (zI x7), some (zJ x3), none, u10, u11, u12], [], M, cl)) rfl h.1 (fun c => ?_) (fun c => ?_)
        · replace h := h.2.1 c
          refine zT.it 4 (t := (92, [some (zR 18 0), some (zI x1), some (zI x2), some (zJ x3), none, some (zJ x5), none, some (zI x7), some (zJ x3), none, some (zI x7), u11, u12], [zI x7, zI x1], M, cl)) rfl ?_
          refine zT.br (g := zr x1 ∧ zr x7) (p := x7 ≤ x1) (t := (100, [some (zR 18 0), some (zI x1), some (zI x2), some (zJ x3), none, some (zJ x5), none, some (zI x7), some (zJ x3), none, some (zI x7), u11, u12], [], M, cl)) (u := (95, [some (zR 18 0), some (zI x1), some (zI x2), some (zJ x3), none, some (zJ x5), none, some (zI x7), some (zJ x3), none, some (zI x7), u11, u12], [], M, cl)) rfl h.1 (fun c => ?_) (fun c => ?_)
          · replace h := h.2.1 c
            refine zT.it 4 (t := (107, [some (zR 18 0), some (zI x1), some (zI x2), some (zJ x3), none, some (zJ x5), none, some (zI x7), some (zJ x3), none, some (zI x7), some (zI x1), some (zI x7)], [], M, cl)) rfl ?_
            exact h
          · replace h := h.2.2 c
            refine zT.it 5 (t := (107, [some (zR 18 0), some (zI x1), some (zI x2), some (zJ x3), none, some (zJ x5), none, some (zI x7), some (zJ x3), none, some (zI x7), some (zI x7), some (zI x7)], [], M, cl)) rfl ?_
            exact h
        · replace h := h.2.2 c
          refine zT.it 5 (t := (92, [some (zR 18 0), some (zI x1), some (zI x2), some (zJ x3), none, some (zJ x5), none, some (zI x7), some (zJ x3), none, some (zI x1), u11, u12], [zI x7, zI x1], M, cl)) rfl ?_
          refine zT.br (g := zr x1 ∧ zr x7) (p := x7 ≤ x1) (t := (100, [some (zR 18 0), some (zI x1), some (zI x2), some (zJ x3), none, some (zJ x5), none, some (zI x7), some (zJ x3), none, some (zI x1), u11, u12], [], M, cl)) (u := (95, [some (zR 18 0), some (zI x1), some (zI x2), some (zJ x3), none, some (zJ x5), none, some (zI x7), some (zJ x3), none, some (zI x1), u11, u12], [], M, cl)) rfl h.1 (fun c => ?_) (fun c => ?_)
          · replace h := h.2.1 c
            refine zT.it 4 (t := (107, [some (zR 18 0), some (zI x1), some (zI x2), some (zJ x3), none, some (zJ x5), none, some (zI x7), some (zJ x3), none, some (zI x1), some (zI x1), some (zI x1)], [], M, cl)) rfl ?_
            exact h
          · replace h := h.2.2 c
            refine zT.it 5 (t := (107, [some (zR 18 0), some (zI x1), some (zI x2), some (zJ x3), none, some (zJ x5), none, some (zI x7), some (zJ x3), none, some (zI x1), some (zI x7), some (zI x1)], [], M, cl)) rfl ?_
            exact h
    · replace h := h.2.2 (Decidable.not_not.1 c)
      refine zT.it 5 (t := (78, [some (zR 18 0), some (zI x1), some (zI x2), some (zJ x3), none, some (zJ x5), none, some (zI x7), some (zJ 0), none, u10, u11, u12], [zI x7, zI x1], M, cl)) rfl ?_
      refine zT.br (g := zr x1 ∧ zr x7) (p := x7 ≤ x1) (t := (85, [some (zR 18 0), some (zI x1), some (zI x2), some (zJ x3), none, some (zJ x5), none, some (zI x7), some (zJ 0), none, u10, u11, u12], [], M, cl)) (u := (81, [some (zR 18 0), some (zI x1), some (zI x2), some (zJ x3), none, some (zJ x5), none, some (zI x7), some (zJ 0), none, u10, u11, u12], [], M, cl)) rfl h.1 (fun c => ?_) (fun c => ?_)
      · replace h := h.2.1 c
        refine zT.it 4 (t := (92, [some (zR 18 0), some (zI x1), some (zI x2), some (zJ x3), none, some (zJ x5), none, some (zI x7), some (zJ 0), none, some (zI x7), u11, u12], [zI x7, zI x1], M, cl)) rfl ?_
        refine zT.br (g := zr x1 ∧ zr x7) (p := x7 ≤ x1) (t := (100, [some (zR 18 0), some (zI x1), some (zI x2), some (zJ x3), none, some (zJ x5), none, some (zI x7), some (zJ 0), none, some (zI x7), u11, u12], [], M, cl)) (u := (95, [some (zR 18 0), some (zI x1), some (zI x2), some (zJ x3), none, some (zJ x5), none, some (zI x7), some (zJ 0), none, some (zI x7), u11, u12], [], M, cl)) rfl h.1 (fun c => ?_) (fun c => ?_)
        · replace h := h.2.1 c
          refine zT.it 4 (t := (107, [some (zR 18 0), some (zI x1), some (zI x2), some (zJ x3), none, some (zJ x5), none, some (zI x7), some (zJ 0), none, some (zI x7), some (zI x1), some (zI x7)], [], M, cl)) rfl ?_
          exact h
        · replace h := h.2.2 c
          refine zT.it 5 (t := (107, [some (zR 18 0), some (zI x1), some (zI x2), some (zJ x3), none, some (zJ x5), none, some (zI x7), some (zJ 0), none, some (zI x7), some (zI x7), some (zI x7)], [], M, cl)) rfl ?_
          exact h
      · replace h := h.2.2 c
        refine zT.it 5 (t := (92, [some (zR 18 0), some (zI x1), some (zI x2), some (zJ x3), none, some (zJ x5), none, some (zI x7), some (zJ 0), none, some (zI x1), u11, u12], [zI x7, zI x1], M, cl)) rfl ?_
        refine zT.br (g := zr x1 ∧ zr x7) (p := x7 ≤ x1) (t := (100, [some (zR 18 0), some (zI x1), some (zI x2), some (zJ x3), none, some (zJ x5), none, some (zI x7), some (zJ 0), none, some (zI x1), u11, u12], [], M, cl)) (u := (95, [some (zR 18 0), some (zI x1), some (zI x2), some (zJ x3), none, some (zJ x5), none, some (zI x7), some (zJ 0), none, some (zI x1), u11, u12], [], M, cl)) rfl h.1 (fun c => ?_) (fun c => ?_)
        · replace h := h.2.1 c
          refine zT.it 4 (t := (107, [some (zR 18 0), some (zI x1), some (zI x2), some (zJ x3), none, some (zJ x5), none, some (zI x7), some (zJ 0), none, some (zI x1), some (zI x1), some (zI x1)], [], M, cl)) rfl ?_
          exact h
        · replace h := h.2.2 c
          refine zT.it 5 (t := (107, [some (zR 18 0), some (zI x1), some (zI x2), some (zJ x3), none, some (zJ x5), none, some (zI x7), some (zJ 0), none, some (zI x1), some (zI x7), some (zI x1)], [], M, cl)) rfl ?_
          exact h
theorem g90_107 {x1 : Int} {x2 : Int} {x3 : Int} {x5 : Int} {x7 : Int} {x8 : Int} {x10 : Int} {x11 : Int} {x12 : Int} {M : zM} {cl : Bool} {Q : zQ} (h : (zr x12 ∧ zr x11) ∧ ((x11 ≤ x12 → (zrl x8 ∧ zrl x5) ∧ ((x5 ≤ x8 → zT 90 (35, [some (zR 18 0), some (zI x1), some (zI x2), some (zJ x3), none, some (zJ x5), none, some (zI (x7 + 1)), some (zJ x8), none, some (zI x10), some (zI x11), some (zI x12)], [], M, cl) Q) ∧ (¬ (x5 ≤ x8) → zT 90 (35, [some (zR 18 0), some (zI x1), some (zI x2), some (zJ x3), none, some (zJ x8), none, some (zI (x7 + 1)), some (zJ x8), none, some (zI x10), some (zI x11), some (zI x12)], [], M, cl) Q))) ∧ (¬ (x11 ≤ x12) → (zr (M.1 18 0 0)) ∧ (zF 89 [zR 18 0, zI x12] M (fun v M2 => ∃ r2 : Int, v = some (zI r2) ∧ ∀ cl2 : Bool, (zr r2) ∧ (zT 90 (107, [some (zR 18 0), some (zI x1), some (zI x2), some (zJ x3), none, some (zJ x5), none, some (zI x7), some (zJ (x8 + ((2 * (M.1 18 0 0)) * r2))), none, some (zI x10), some (zI x11), some (zI (x12 + 1))], [], M2, cl2) Q)))))) : zT 90 (107, [some (zR 18 0), some (zI x1), some (zI x2), some (zJ x3), none, some (zJ x5), none, some (zI x7), some (zJ x8), none, some (zI x10), some (zI x11), some (zI x12)], [], M, cl) Q := by
  refine zT.it 2 (t := (111, [some (zR 18 0), some (zI x1), some (zI x2), some (zJ x3), none, some (zJ x5), none, some (zI x7), some (zJ x8), none, some (zI x10), some (zI x11), some (zI x12)], [zI x11, zI x12], M, cl)) rfl ?_
  refine zT.br (g := zr x12 ∧ zr x11) (p := x11 ≤ x12) (t := (142, [some (zR 18 0), some (zI x1), some (zI x2), some (zJ x3), none, some (zJ x5), none, some (zI x7), some (zJ x8), none, some (zI x10), some (zI x11), some (zI x12)], [], M, cl)) (u := (114, [some (zR 18 0), some (zI x1), some (zI x2), some (zJ x3), none, some (zJ x5), none, some (zI x7), some (zJ x8), none, some (zI x10), some (zI x11), some (zI x12)], [], M, cl)) rfl h.1 (fun c => ?_) (fun c => ?_)
  · replace h := h.2.1 c
    refine zT.it 2 (t := (146, [some (zR 18 0), some (zI x1), some (zI x2), some (zJ x3), none, some (zJ x5), none, some (zI x7), some (zJ x8), none, some (zI x10), some (zI x11), some (zI x12)], [zJ x5, zJ x8], M, cl)) rfl ?_
    refine zT.chk (p := zrl x8 ∧ zrl x5) (t := (147, [some (zR 18 0), some (zI x1), some (zI x2), some (zJ x3), none, some (zJ x5), none, some (zI x7), some (zJ x8), none, some (zI x10), some (zI x11), some (zI x12)], [zI (z_cmp x8 x5)], M, cl)) rfl h.1 ?_
    replace h := h.2
    refine zT.br (t := (155, [some (zR 18 0), some (zI x1), some (zI x2), some (zJ x3), none, some (zJ x5), none, some (zI x7), some (zJ x8), none, some (zI x10), some (zI x11), some (zI x12)], [], M, cl)) (u := (150, [some (zR 18 0), some (zI x1), some (zI x2), some (zJ x3), none, some (zJ x5), none, some (zI x7), some (zJ x8), none, some (zI x10), some (zI x11), some (zI x12)], [], M, cl)) rfl (z_cmp_r _ _) (fun c => ?_) (fun c => ?_)
    · replace h := h.1 (z_cmp_ge.1 c)
      refine zT.it 4 (t := (35, [some (zR 18 0), some (zI x1), some (zI x2), some (zJ x3), none, some (zJ x5), none, some (zI (x7 + 1)), some (zJ x8), none, some (zI x10), some (zI x11), some (zI x12)], [], M, cl)) rfl ?_
      exact h
    · replace h := h.2 (fun d => c (z_cmp_ge.2 d))
      refine zT.it 5 (t := (35, [some (zR 18 0), some (zI x1), some (zI x2), some (zJ x3), none, some (zJ x8), none, some (zI (x7 + 1)), some (zJ x8), none, some (zI x10), some (zI x11), some (zI x12)], [], M, cl)) rfl ?_
      exact h
  · replace h := h.2.2 c
    refine zT.it 4 (t := (123, [some (zR 18 0), some (zI x1), some (zI x2), some (zJ x3), none, some (zJ x5), none, some (zI x7), some (zJ x8), none, some (zI x10), some (zI x11), some (zI x12)], [zI (M.1 18 0 0), zJ 2, zJ x8], M, cl)) rfl ?_
    refine zT.chk (p := zr (M.1 18 0 0)) (t := (124, [some (zR 18 0), some (zI x1), some (zI x2), some (zJ x3), none, some (zJ x5), none, some (zI x7), some (zJ x8), none, some (zI x10), some (zI x11), some (zI x12)], [zJ (M.1 18 0 0), zJ 2, zJ x8], M, cl)) rfl h.1 ?_
    replace h := h.2
    refine zT.it 3 (t := (128, [some (zR 18 0), some (zI x1), some (zI x2), some (zJ x3), none, some (zJ x5), none, some (zI x7), some (zJ x8), none, some (zI x10), some (zI x11), some (zI x12)], [zI x12, zR 18 0, zJ (2 * (M.1 18 0 0)), zJ x8], M, cl)) rfl ?_
    refine zT.call (m := 89) (as := [zR 18 0, zI x12]) (M := M) (L := [some (zR 18 0), some (zI x1), some (zI x2), some (zJ x3), none, some (zJ x5), none, some (zI x7), some (zJ x8), none, some (zI x10), some (zI x11), some (zI x12)]) (st := [zJ (2 * (M.1 18 0 0)), zJ x8]) (pn := 131) (cl := cl) rfl ?_
    refine zF.mono h (fun v M2 h cl2 => ?_)
    obtain ⟨r2, e2, h⟩ := h; subst e2; replace h := h cl2
    show zT 90 (131, [some (zR 18 0), some (zI x1), some (zI x2), some (zJ x3), none, some (zJ x5), none, some (zI x7), some (zJ x8), none, some (zI x10), some (zI x11), some (zI x12)], [zI r2, zJ (2 * (M.1 18 0 0)), zJ x8], M2, cl2) _
    refine zT.chk (p := zr r2) (t := (132, [some (zR 18 0), some (zI x1), some (zI x2), some (zJ x3), none, some (zJ x5), none, some (zI x7), some (zJ x8), none, some (zI x10), some (zI x11), some (zI x12)], [zJ r2, zJ (2 * (M.1 18 0 0)), zJ x8], M2, cl2)) rfl h.1 ?_
    replace h := h.2
    refine zT.it 5 (t := (107, [some (zR 18 0), some (zI x1), some (zI x2), some (zJ x3), none, some (zJ x5), none, some (zI x7), some (zJ (x8 + ((2 * (M.1 18 0 0)) * r2))), none, some (zI x10), some (zI x11), some (zI (x12 + 1))], [], M2, cl2)) rfl ?_
    exact h
theorem g91_0 {a1 : Int} {M : zM} {Q : zQ} (h : zT 91 (2, [some (zJ a1), none, some (zJ 0), none], [], M, true) Q) : zT 91 (0, [some (zJ a1), none, none, none], [], M, true) Q := by
  refine zT.it 2 (t := (2, [some (zJ a1), none, some (zJ 0), none], [], M, true)) rfl ?_
  exact h
theorem g91_2 {x0 : Int} {x2 : Int} {M : zM} {cl : Bool} {Q : zQ} (h : (zrl ((x2 + 1) * (x2 + 1)) ∧ zrl x0) ∧ ((x0 < ((x2 + 1) * (x2 + 1)) → Q (.inl (some (zJ x2))) M cl 0) ∧ (¬ (x0 < ((x2 + 1) * (x2 + 1))) → zT 91 (2, [some (zJ x0), none, some (zJ (x2 + 1)), none], [], M, cl) Q))) : zT 91 (2, [some (zJ x0), none, some (zJ x2), none], [], M, cl) Q := by
  refine zT.it 8 (t := (10, [some (zJ x0), none, some (zJ x2), none], [zJ x0, zJ ((x2 + 1) * (x2 + 1))], M, cl)) rfl ?_
  refine zT.chk (p := zrl ((x2 + 1) * (x2 + 1)) ∧ zrl x0) (t := (11, [some (zJ x0), none, some (zJ x2), none], [zI (z_cmp ((x2 + 1) * (x2 + 1)) x0)], M, cl)) rfl h.1 ?_
  replace h := h.2
  refine zT.br (t := (21, [some (zJ x0), none, some (zJ x2), none], [], M, cl)) (u := (14, [some (zJ x0), none, some (zJ x2), none], [], M, cl)) rfl (z_cmp_r _ _) (fun c => ?_) (fun c => ?_)
  · replace h := h.1 (z_cmp_gt.1 c)
    refine zT.it 1 (t := (22, [some (zJ x0), none, some (zJ x2), none], [zJ x2], M, cl)) rfl ?_
    exact zT.ret (v := some (zJ x2)) rfl trivial h
  · replace h := h.2 (fun d => c (z_cmp_gt.2 d))
    refine zT.it 5 (t := (2, [some (zJ x0), none, some (zJ (x2 + 1)), none], [], M, cl)) rfl ?_
    exact h
theorem g92_0 {M : zM} {Q : zQ} (h : zF 89 [zR 18 0, zI 0] M (fun v M1 => ∃ r1 : Int, v = some (zI r1) ∧ ∀ cl1 : Bool, zF 87 [zR 18 0, zI 0] M1 (fun v M2 => ∃ r2 : Int, v = some (zJ r2) ∧ ∀ cl2 : Bool, (zr (M2.1 18 0 0)) ∧ ((zr ((M.1 18 0 23) + 1)) ∧ ((zrl ((M2.2.1 18 0 20) + ((2 * (M2.1 18 0 0)) * ((M.1 18 0 23) + 1))) ∧ zrl r2) ∧ ((r2 ≤ ((M2.2.1 18 0 20) + ((2 * (M2.1 18 0 0)) * ((M.1 18 0 23) + 1))) → zT 92 (62, [some (zR 18 0), some (zI ((M.1 18 0 23) + 1)), some (zI r1), some (zJ r2), none, none], [zJ r2], M2, cl2) Q) ∧ (¬ (r2 ≤ ((M2.2.1 18 0 20) + ((2 * (M2.1 18 0 0)) * ((M.1 18 0 23) + 1)))) → (zr (M2.1 18 0 0)) ∧ ((zr ((M.1 18 0 23) + 1)) ∧ (zT 92 (62, [some (zR 18 0), some (zI ((M.1 18 0 23) + 1)), some (zI r1), some (zJ r2), none, none], [zJ ((M2.2.1 18 0 20) + ((2 * (M2.1 18 0 0)) * ((M.1 18 0 23) + 1)))], M2, cl2) Q))))))))) : zT 92 (0, [some (zR 18 0), none, none, none, none, none], [], M, true) Q := by
  refine zT.it 7 (t := (9, [some (zR 18 0), some (zI ((M.1 18 0 23) + 1)), none, none, none, none], [zI 0, zR 18 0], M, true)) rfl ?_
  refine zT.call (m := 89) (as := [zR 18 0, zI 0]) (M := M) (L := [some (zR 18 0), some (zI ((M.1 18 0 23) + 1)), none, none, none, none]) (st := []) (pn := 12) (cl := true) rfl ?_
  refine zF.mono h (fun v M1 h cl1 => ?_)
  obtain ⟨r1, e1, h⟩ := h; subst e1; replace h := h cl1
  show zT 92 (12, [some (zR 18 0), some (zI ((M.1 18 0 23) + 1)), none, none, none, none], [zI r1], M1, cl1) _
  refine zT.it 3 (t := (15, [some (zR 18 0), some (zI ((M.1 18 0 23) + 1)), some (zI r1), none, none, none], [zI 0, zR 18 0], M1, cl1)) rfl ?_
  refine zT.call (m := 87) (as := [zR 18 0, zI 0]) (M := M1) (L := [some (zR 18 0), some (zI ((M.1 18 0 23) + 1)), some (zI r1), none, none, none]) (st := []) (pn := 18) (cl := cl1) rfl ?_
  refine zF.mono h (fun v M2 h cl2 => ?_)
  obtain ⟨r2, e2, h⟩ := h; subst e2; replace h := h cl2
  show zT 92 (18, [some (zR 18 0), some (zI ((M.1 18 0 23) + 1)), some (zI r1), none, none, none], [zJ r2], M2, cl2) _
  refine zT.it 6 (t := (30, [some (zR 18 0), some (zI ((M.1 18 0 23) + 1)), some (zI r1), some (zJ r2), none, none], [zI (M2.1 18 0 0), zJ 2, zJ (M2.2.1 18 0 20)], M2, cl2)) rfl ?_
  refine zT.chk (p := zr (M2.1 18 0 0)) (t := (31, [some (zR 18 0), some (zI ((M.1 18 0 23) + 1)), some (zI r1), some (zJ r2), none, none], [zJ (M2.1 18 0 0), zJ 2, zJ (M2.2.1 18 0 20)], M2, cl2)) rfl h.1 ?_
  replace h := h.2
  refine zT.it 2 (t := (33, [some (zR 18 0), some (zI ((M.1 18 0 23) + 1)), some (zI r1), some (zJ r2), none, none], [zI ((M.1 18 0 23) + 1), zJ (2 * (M2.1 18 0 0)), zJ (M2.2.1 18 0 20)], M2, cl2)) rfl ?_
  refine zT.chk (p := zr ((M.1 18 0 23) + 1)) (t := (34, [some (zR 18 0), some (zI ((M.1 18 0 23) + 1)), some (zI r1), some (zJ r2), none, none], [zJ ((M.1 18 0 23) + 1), zJ (2 * (M2.1 18 0 0)), zJ (M2.2.1 18 0 20)], M2, cl2)) rfl h.1 ?_
  replace h := h.2
  refine zT.it 3 (t := (37, [some (zR 18 0), some (zI ((M.1 18 0 23) + 1)), some (zI r1), some (zJ r2), none, none], [zJ r2, zJ ((M2.2.1 18 0 20) + ((2 * (M2.1 18 0 0)) * ((M.1 18 0 23) + 1)))], M2, cl2)) rfl ?_
  refine zT.chk (p := zrl ((M2.2.1 18 0 20) + ((2 * (M2.1 18 0 0)) * ((M.1 18 0 23) + 1))) ∧ zrl r2) (t := (38, [some (zR 18 0), some (zI ((M.1 18 0 23) + 1)), some (zI r1), some (zJ r2), none, none], [zI (z_cmp ((M2.2.1 18 0 20) + ((2 * (M2.1 18 0 0)) * ((M.1 18 0 23) + 1))) r2)], M2, cl2)) rfl h.1 ?_
  replace h := h.2
  refine zT.br (t := (61, [some (zR 18 0), some (zI ((M.1 18 0 23) + 1)), some (zI r1), some (zJ r2), none, none], [], M2, cl2)) (u := (41, [some (zR 18 0), some (zI ((M.1 18 0 23) + 1)), some (zI r1), some (zJ r2), none, none], [], M2, cl2)) rfl (z_cmp_r _ _) (fun c => ?_) (fun c => ?_)
  · replace h := h.1 (z_cmp_ge.1 c)
    refine zT.it 1 (t := (62, [some (zR 18 0), some (zI ((M.1 18 0 23) + 1)), some (zI r1), some (zJ r2), none, none], [zJ r2], M2, cl2)) rfl ?_
    exact h
  · replace h := h.2 (fun d => c (z_cmp_ge.2 d))
    refine zT.it 5 (t := (52, [some (zR 18 0), some (zI ((M.1 18 0 23) + 1)), some (zI r1), some (zJ r2), none, none], [zI (M2.1 18 0 0), zJ 2, zJ (M2.2.1 18 0 20)], M2, cl2)) rfl ?_
    refine zT.chk (p := zr (M2.1 18 0 0)) (t := (53, [some (zR 18 0), some (zI ((M.1 18 0 23) + 1)), some (zI r1), some (zJ r2), none, none], [zJ (M2.1 18 0 0), zJ 2, zJ (M2.2.1 18 0 20)], M2, cl2)) rfl h.1 ?_
    replace h := h.2
    refine zT.it 2 (t := (55, [some (zR 18 0), some (zI ((M.1 18 0 23) + 1)), some (zI r1), some (zJ r2), none, none], [zI ((M.1 18 0 23) + 1), zJ (2 * (M2.1 18 0 0)), zJ (M2.2.1 18 0 20)], M2, cl2)) rfl ?_
    refine zT.chk (p := zr ((M.1 18 0 23) + 1)) (t := (56, [some (zR 18 0), some (zI ((M.1 18 0 23) + 1)), some (zI r1), some (zJ r2), none, none], [zJ ((M.1 18 0 23) + 1), zJ (2 * (M2.1 18 0 0)), zJ (M2.2.1 18 0 20)], M2, cl2)) rfl h.1 ?_
    replace h := h.2
    refine zT.it 3 (t := (62, [some (zR 18 0), some (zI ((M.1 18 0 23) + 1)), some (zI r1), some (zJ r2), none, none], [zJ ((M2.2.1 18 0 20) + ((2 * (M2.1 18 0 0)) * ((M.1 18 0 23) + 1)))], M2, cl2)) rfl ?_
    exact h
theorem g92_62 {x1 : Int} {x2 : Int} {x3 : Int} {u5 : Option zV} {s0 : Int} {M : zM} {cl : Bool} {Q : zQ} (h : (zr (M.1 18 0 0)) ∧ ((zr ((x2 - x1) + 1)) ∧ ((zrl ((M.2.1 18 0 21) + ((2 * (M.1 18 0 0)) * ((x2 - x1) + 1))) ∧ zrl s0) ∧ ((s0 ≤ ((M.2.1 18 0 21) + ((2 * (M.1 18 0 0)) * ((x2 - x1) + 1))) → zT 92 (114, [some (zR 18 0), some (zI x1), some (zI x2), some (zJ s0), none, u5], [zJ s0], M, cl) Q) ∧ (¬ (s0 ≤ ((M.2.1 18 0 21) + ((2 * (M.1 18 0 0)) * ((x2 - x1) + 1)))) → (zr (M.1 18 0 0)) ∧ ((zr ((x2 - x1) + 1)) ∧ (zT 92 (114, [some (zR 18 0), some (zI x1), some (zI x2), some (zJ s0), none, u5], [zJ ((M.2.1 18 0 21) + ((2 * (M.1 18 0 0)) * ((x2 - x1) + 1)))], M, cl) Q))))))) : zT 92 (62, [some (zR 18 0), some (zI x1), some (zI x2), some (zJ x3), none, u5], [zJ s0], M, cl) Q := by
  refine zT.it 6 (t := (74, [some (zR 18 0), some (zI x1), some (zI x2), some (zJ s0), none, u5], [zI (M.1 18 0 0), zJ 2, zJ (M.2.1 18 0 21)], M, cl)) rfl ?_
  refine zT.chk (p := zr (M.1 18 0 0)) (t := (75, [some (zR 18 0), some (zI x1), some (zI x2), some (zJ s0), none, u5], [zJ (M.1 18 0 0), zJ 2, zJ (M.2.1 18 0 21)], M, cl)) rfl h.1 ?_
  replace h := h.2
  refine zT.it 6 (t := (81, [some (zR 18 0), some (zI x1), some (zI x2), some (zJ s0), none, u5], [zI ((x2 - x1) + 1), zJ (2 * (M.1 18 0 0)), zJ (M.2.1 18 0 21)], M, cl)) rfl ?_
  refine zT.chk (p := zr ((x2 - x1) + 1)) (t := (82, [some (zR 18 0), some (zI x1), some (zI x2), some (zJ s0), none, u5], [zJ ((x2 - x1) + 1), zJ (2 * (M.1 18 0 0)), zJ (M.2.1 18 0 21)], M, cl)) rfl h.1 ?_
  replace h := h.2
  refine zT.it 3 (t := (85, [some (zR 18 0), some (zI x1), some (zI x2), some (zJ s0), none, u5], [zJ s0, zJ ((M.2.1 18 0 21) + ((2 * (M.1 18 0 0)) * ((x2 - x1) + 1)))], M, cl)) rfl ?_
  refine zT.chk (p := zrl ((M.2.1 18 0 21) + ((2 * (M.1 18 0 0)) * ((x2 - x1) + 1))) ∧ zrl s0) (t := (86, [some (zR 18 0), some (zI x1), some (zI x2), some (zJ s0), none, u5], [zI (z_cmp ((M.2.1 18 0 21) + ((2 * (M.1 18 0 0)) * ((x2 - x1) + 1))) s0)], M, cl)) rfl h.1 ?_
  replace h := h.2
  refine zT.br (t := (113, [some (zR 18 0), some (zI x1), some (zI x2), some (zJ s0), none, u5], [], M, cl)) (u := (89, [some (zR 18 0), some (zI x1), some (zI x2), some (zJ s0), none, u5], [], M, cl)) rfl (z_cmp_r _ _) (fun c => ?_) (fun c => ?_)
  · replace h := h.1 (z_cmp_ge.1 c)
    refine zT.it 1 (t := (114, [some (zR 18 0), some (zI x1), some (zI x2), some (zJ s0), none, u5], [zJ s0], M, cl)) rfl ?_
    exact h
  · replace h := h.2 (fun d => c (z_cmp_ge.2 d))
    refine zT.it 5 (t := (100, [some (zR 18 0), some (zI x1), some (zI x2), some (zJ s0), none, u5], [zI (M.1 18 0 0), zJ 2, zJ (M.2.1 18 0 21)], M, cl)) rfl ?_
    refine zT.chk (p := zr (M.1 18 0 0)) (t := (101, [some (zR 18 0), some (zI x1), some (zI x2), some (zJ s0), none, u5], [zJ (M.1 18 0 0), zJ 2, zJ (M.2.1 18 0 21)], M, cl)) rfl h.1 ?_
    replace h := h.2
    refine zT.it 6 (t := (107, [some (zR 18 0), some (zI x1), some (zI x2), some (zJ s0), none, u5], [zI ((x2 - x1) + 1), zJ (2 * (M.1 18 0 0)), zJ (M.2.1 18 0 21)], M, cl)) rfl ?_
    refine zT.chk (p := zr ((x2 - x1) + 1)) (t := (108, [some (zR 18 0), some (zI x1), some (zI x2), some (zJ s0), none, u5], [zJ ((x2 - x1) + 1), zJ (2 * (M.1 18 0 0)), zJ (M.2.1 18 0 21)], M, cl)) rfl h.1 ?_
    replace h := h.2
    refine zT.it 3 (t := (114, [some (zR 18 0), some (zI x1), some (zI x2), some (zJ s0), none, u5], [zJ ((M.2.1 18 0 21) + ((2 * (M.1 18 0 0)) * ((x2 - x1) + 1)))], M, cl)) rfl ?_
    exact h
theorem g92_114 {x1 : Int} {x2 : Int} {x3 : Int} {u5 : Option zV} {s0 : Int} {M : zM} {cl : Bool} {Q : zQ} (h : zF 91 [zJ s0] M (fun v M3 => ∃ r3 : Int, v = some (zJ r3) ∧ ∀ cl3 : Bool, (z_dvl 1000 r3) ∧ ((zr (1000 / r3) ∧ zr 1) ∧ ((1 ≤ (1000 / r3) → Q (.inl (some (zI (1000 / r3)))) M3 cl3 0) ∧ (¬ (1 ≤ (1000 / r3)) → Q (.inl (some (zI 1))) M3 cl3 0))))) : zT 92 (114, [some (zR 18 0), some (zI x1), some (zI x2), some (zJ x3), none, u5], [zJ s0], M, cl) Q := by
  refine zT.it 3 (t := (119, [some (zR 18 0), some (zI x1), some (zI x2), some (zJ s0), none, u5], [zJ s0, zJ 1000], M, cl)) rfl ?_
  refine zT.call (m := 91) (as := [zJ s0]) (M := M) (L := [some (zR 18 0), some (zI x1), some (zI x2), some (zJ s0), none, u5]) (st := [zJ 1000]) (pn := 122) (cl := cl) rfl ?_
  refine zF.mono h (fun v M3 h cl3 => ?_)
  obtain ⟨r3, e3, h⟩ := h; subst e3; replace h := h cl3
  show zT 92 (122, [some (zR 18 0), some (zI x1), some (zI x2), some (zJ s0), none, u5], [zJ r3, zJ 1000], M3, cl3) _
  refine zT.chk (p := z_dvl 1000 r3) (t := (123, [some (zR 18 0), some (zI x1), some (zI x2), some (zJ s0), none, u5], [zJ (1000 / r3)], M3, cl3)) rfl h.1 ?_
  replace h := h.2
  refine zT.it 4 (t := (129, [some (zR 18 0), some (zI x1), some (zI x2), some (zJ s0), none, some (zI (1000 / r3))], [zI 1, zI (1000 / r3)], M3, cl3)) rfl ?_
  refine zT.br (g := zr (1000 / r3) ∧ zr 1) (p := 1 ≤ (1000 / r3)) (t := (136, [some (zR 18 0), some (zI x1), some (zI x2), some (zJ s0), none, some (zI (1000 / r3))], [], M3, cl3)) (u := (132, [some (zR 18 0), some (zI x1), some (zI x2), some (zJ s0), none, some (zI (1000 / r3))], [], M3, cl3)) rfl h.1 (fun c => ?_) (fun c => ?_)
  · replace h := h.2.1 c
    refine zT.it 1 (t := (138, [some (zR 18 0), some (zI x1), some (zI x2), some (zJ s0), none, some (zI (1000 / r3))], [zI (1000 / r3)], M3, cl3)) rfl ?_
    exact zT.ret (v := some (zI (1000 / r3))) rfl (by first | exact trivial | decide) h
  · replace h := h.2.2 c
    refine zT.it 2 (t := (138, [some (zR 18 0), some (zI x1), some (zI x2), some (zJ s0), none, some (zI (1000 / r3))], [zI 1], M3, cl3)) rfl ?_
    exact zT.ret (v := some (zI 1)) rfl (by first | exact trivial | decide) h
theorem g93_0 {a1 : Int} {M : zM} {Q : zQ} (h : zF 90 [zR 18 0, zI 1, zI 0, zJ a1] (z_wl M 18 0 20 a1) (fun v M1 => ∃ r1 : Int, v = some (zJ r1) ∧ ∀ cl1 : Bool, (zr (M1.1 27 0 0)) ∧ ((¬ (M1.1 27 0 0) = 0 → zF 92 [zR 18 0] (z_w (z_w (z_w (z_w (z_w (z_wl M1 18 0 21 r1) 18 0 19 1) 18 0 23 0) 29 0 0 (M1.1 23 0 0)) 29 0 1 (M1.1 23 0 1)) 29 0 2 (M1.1 23 0 2)) (fun v M2 => ∃ r2 : Int, v = some (zI r2) ∧ ∀ cl2 : Bool, Q (.inl none) (z_w M2 18 0 24 r2) false 0)) ∧ ((M1.1 27 0 0) = 0 → Q (.inl none) (z_w (z_w (z_w (z_w (z_w (z_w (z_wl M1 18 0 21 r1) 18 0 19 1) 18 0 23 0) 29 0 0 (M1.1 23 0 0)) 29 0 1 (M1.1 23 0 1)) 29 0 2 (M1.1 23 0 2)) 18 0 24 (M1.1 28 0 0)) false 0)))) : zT 93 (0, [some (zR 18 0), some (zJ a1), none, none], [], M, true) Q := by
  refine zT.it 8 (t := (10, [some (zR 18 0), some (zJ a1), none, none], [zJ a1, zI 0, zI 1, zR 18 0, zR 18 0], (z_wl M 18 0 20 a1), false)) rfl ?_
  refine zT.call (m := 90) (as := [zR 18 0, zI 1, zI 0, zJ a1]) (M := (z_wl M 18 0 20 a1)) (L := [some (zR 18 0), some (zJ a1), none, none]) (st := [zR 18 0]) (pn := 13) (cl := false) rfl ?_
  refine zF.mono h (fun v M1 h cl1 => ?_)
  obtain ⟨r1, e1, h⟩ := h; subst e1; replace h := h cl1
  show zT 93 (13, [some (zR 18 0), some (zJ a1), none, none], [zJ r1, zR 18 0], M1, cl1) _
  refine zT.it 3 (t := (18, [some (zR 18 0), some (zJ a1), none, none], [zI 1, zR 18 0], (z_wl M1 18 0 21 r1), false)) rfl ?_
  refine zT.chk (t := (21, [some (zR 18 0), some (zJ a1), none, none], [], (z_w (z_wl M1 18 0 21 r1) 18 0 19 1), false)) rfl (by first | decide | (dsimp only; decide)) ?_
  refine zT.it 7 (t := (30, [some (zR 18 0), some (zJ a1), none, some (zI 0)], [zI 3, zI 0], (z_w (z_w (z_wl M1 18 0 21 r1) 18 0 19 1) 18 0 23 0), false)) rfl ?_
  refine zT.br (g := zr 0 ∧ zr 3) (p := 3 ≤ 0) (t := (51, [some (zR 18 0), some (zJ a1), none, some (zI 0)], [], (z_w (z_w (z_wl M1 18 0 21 r1) 18 0 19 1) 18 0 23 0), false)) (u := (33, [some (zR 18 0), some (zJ a1), none, some (zI 0)], [], (z_w (z_w (z_wl M1 18 0 21 r1) 18 0 19 1) 18 0 23 0), false)) rfl (by decide) (fun c => absurd c (by decide)) (fun c => ?_)
  refine zT.it 6 (t := (43, [some (zR 18 0), some (zJ a1), none, some (zI 0)], [zI 0, zR 23 0, zI 0, zR 29 0], (z_w (z_w (z_wl M1 18 0 21 r1) 18 0 19 1) 18 0 23 0), false)) rfl ?_
  refine zT.chk (t := (44, [some (zR 18 0), some (zJ a1), none, some (zI 0)], [zI (M1.1 23 0 0), zI 0, zR 29 0], (z_w (z_w (z_wl M1 18 0 21 r1) 18 0 19 1) 18 0 23 0), false)) rfl (by first | decide | (dsimp only; decide)) ?_
  refine zT.chk (t := (45, [some (zR 18 0), some (zJ a1), none, some (zI 0)], [], (z_w (z_w (z_w (z_wl M1 18 0 21 r1) 18 0 19 1) 18 0 23 0) 29 0 0 (M1.1 23 0 0)), false)) rfl (by first | decide | (dsimp only; decide)) ?_
  refine zT.it 4 (t := (30, [some (zR 18 0), some (zJ a1), none, some (zI 1)], [zI 3, zI 1], (z_w (z_w (z_w (z_wl M1 18 0 21 r1) 18 0 19 1) 18 0 23 0) 29 0 0 (M1.1 23 0 0)), false)) rfl ?_
  refine zT.br (g := zr 1 ∧ zr 3) (p := 3 ≤ 1) (t := (51, [some (zR 18 0), some (zJ a1), none, some (zI 1)], [], (z_w (z_w (z_w (z_wl M1 18 0 21 r1) 18 0 19 1) 18 0 23 0) 29 0 0 (M1.1 23 0 0)), false)) (u := (33, [some (zR 18 0), some (zJ a1), none, some (zI 1)], [], (z_w (z_w (z_w (z_wl M1 18 0 21 r1) 18 0 19 1) 18 0 23 0) 29 0 0 (M1.1 23 0 0)), false)) rfl (by decide) (fun c => absurd c (by decide)) (fun c => ?_)
  refine zT.it 6 (t := (43, [some (zR 18 0), some (zJ a1), none, some (zI 1)], [zI 1, zR 23 0, zI 1, zR 29 0], (z_w (z_w (z_w (z_wl M1 18 0 21 r1) 18 0 19 1) 18 0 23 0) 29 0 0 (M1.1 23 0 0)), false)) rfl ?_
  refine zT.chk (t := (44, [some (zR 18 0), some (zJ a1), none, some (zI 1)], [zI (M1.1 23 0 1), zI 1, zR 29 0], (z_w (z_w (z_w (z_wl M1 18 0 21 r1) 18 0 19 1) 18 0 23 0) 29 0 0 (M1.1 23 0 0)), false)) rfl (by first | decide | (dsimp only; decide)) ?_
  refine zT.chk (t := (45, [some (zR 18 0), some (zJ a1), none, some (zI 1)], [], (z_w (z_w (z_w (z_w (z_wl M1 18 0 21 r1) 18 0 19 1) 18 0 23 0) 29 0 0 (M1.1 23 0 0)) 29 0 1 (M1.1 23 0 1)), false)) rfl (by first | decide | (dsimp only; decide)) ?_
  refine zT.it 4 (t := (30, [some (zR 18 0), some (zJ a1), none, some (zI 2)], [zI 3, zI 2], (z_w (z_w (z_w (z_w (z_wl M1 18 0 21 r1) 18 0 19 1) 18 0 23 0) 29 0 0 (M1.1 23 0 0)) 29 0 1 (M1.1 23 0 1)), false)) rfl ?_
  refine zT.br (g := zr 2 ∧ zr 3) (p := 3 ≤ 2) (t := (51, [some (zR 18 0), some (zJ a1), none, some (zI 2)], [], (z_w (z_w (z_w (z_w (z_wl M1 18 0 21 r1) 18 0 19 1) 18 0 23 0) 29 0 0 (M1.1 23 0 0)) 29 0 1 (M1.1 23 0 1)), false)) (u := (33, [some (zR 18 0), some (zJ a1), none, some (zI 2)], [], (z_w (z_w (z_w (z_w (z_wl M1 18 0 21 r1) 18 0 19 1) 18 0 23 0) 29 0 0 (M1.1 23 0 0)) 29 0 1 (M1.1 23 0 1)), false)) rfl (by decide) (fun c => absurd c (by decide)) (fun c => ?_)
  refine zT.it 6 (t := (43, [some (zR 18 0), some (zJ a1), none, some (zI 2)], [zI 2, zR 23 0, zI 2, zR 29 0], (z_w (z_w (z_w (z_w (z_wl M1 18 0 21 r1) 18 0 19 1) 18 0 23 0) 29 0 0 (M1.1 23 0 0)) 29 0 1 (M1.1 23 0 1)), false)) rfl ?_
  refine zT.chk (t := (44, [some (zR 18 0), some (zJ a1), none, some (zI 2)], [zI (M1.1 23 0 2), zI 2, zR 29 0], (z_w (z_w (z_w (z_w (z_wl M1 18 0 21 r1) 18 0 19 1) 18 0 23 0) 29 0 0 (M1.1 23 0 0)) 29 0 1 (M1.1 23 0 1)), false)) rfl (by first | decide | (dsimp only; decide)) ?_
  refine zT.chk (t := (45, [some (zR 18 0), some (zJ a1), none, some (zI 2)], [], (z_w (z_w (z_w (z_w (z_w (z_wl M1 18 0 21 r1) 18 0 19 1) 18 0 23 0) 29 0 0 (M1.1 23 0 0)) 29 0 1 (M1.1 23 0 1)) 29 0 2 (M1.1 23 0 2)), false)) rfl (by first | decide | (dsimp only; decide)) ?_
  refine zT.it 4 (t := (30, [some (zR 18 0), some (zJ a1), none, some (zI 3)], [zI 3, zI 3], (z_w (z_w (z_w (z_w (z_w (z_wl M1 18 0 21 r1) 18 0 19 1) 18 0 23 0) 29 0 0 (M1.1 23 0 0)) 29 0 1 (M1.1 23 0 1)) 29 0 2 (M1.1 23 0 2)), false)) rfl ?_
  refine zT.br (g := zr 3 ∧ zr 3) (p := 3 ≤ 3) (t := (51, [some (zR 18 0), some (zJ a1), none, some (zI 3)], [], (z_w (z_w (z_w (z_w (z_w (z_wl M1 18 0 21 r1) 18 0 19 1) 18 0 23 0) 29 0 0 (M1.1 23 0 0)) 29 0 1 (M1.1 23 0 1)) 29 0 2 (M1.1 23 0 2)), false)) (u := (33, [some (zR 18 0), some (zJ a1), none, some (zI 3)], [], (z_w (z_w (z_w (z_w (z_w (z_wl M1 18 0 21 r1) 18 0 19 1) 18 0 23 0) 29 0 0 (M1.1 23 0 0)) 29 0 1 (M1.1 23 0 1)) 29 0 2 (M1.1 23 0 2)), false)) rfl (by decide) (fun c => ?_) (fun c => absurd (by decide) c)
  refine zT.it 4 (t := (57, [some (zR 18 0), some (zJ a1), none, some (zI 3)], [zI 0, zR 27 0, zR 18 0], (z_w (z_w (z_w (z_w (z_w (z_wl M1 18 0 21 r1) 18 0 19 1) 18 0 23 0) 29 0 0 (M1.1 23 0 0)) 29 0 1 (M1.1 23 0 1)) 29 0 2 (M1.1 23 0 2)), false)) rfl ?_
  refine zT.chk (t := (58, [some (zR 18 0), some (zJ a1), none, some (zI 3)], [zI (M1.1 27 0 0), zR 18 0], (z_w (z_w (z_w (z_w (z_w (z_wl M1 18 0 21 r1) 18 0 19 1) 18 0 23 0) 29 0 0 (M1.1 23 0 0)) 29 0 1 (M1.1 23 0 1)) 29 0 2 (M1.1 23 0 2)), false)) rfl (by first | decide | (dsimp only; decide)) ?_
  refine zT.br (g := zr (M1.1 27 0 0)) (p := ¬ (M1.1 27 0 0) = 0) (t := (70, [some (zR 18 0), some (zJ a1), none, some (zI 3)], [zR 18 0], (z_w (z_w (z_w (z_w (z_w (z_wl M1 18 0 21 r1) 18 0 19 1) 18 0 23 0) 29 0 0 (M1.1 23 0 0)) 29 0 1 (M1.1 23 0 1)) 29 0 2 (M1.1 23 0 2)), false)) (u := (61, [some (zR 18 0), some (zJ a1), none, some (zI 3)], [zR 18 0], (z_w (z_w (z_w (z_w (z_w (z_wl M1 18 0 21 r1) 18 0 19 1) 18 0 23 0) 29 0 0 (M1.1 23 0 0)) 29 0 1 (M1.1 23 0 1)) 29 0 2 (M1.1 23 0 2)), false)) rfl h.1 (fun c => ?_) (fun c => ?_)
  · replace h := h.2.1 c
    refine zT.it 1 (t := (71, [some (zR 18 0), some (zJ a1), none, some (zI 3)], [zR 18 0, zR 18 0], (z_w (z_w (z_w (z_w (z_w (z_wl M1 18 0 21 r1) 18 0 19 1) 18 0 23 0) 29 0 0 (M1.1 23 0 0)) 29 0 1 (M1.1 23 0 1)) 29 0 2 (M1.1 23 0 2)), false)) rfl ?_
    refine zT.call (m := 92) (as := [zR 18 0]) (M := (z_w (z_w (z_w (z_w (z_w (z_wl M1 18 0 21 r1) 18 0 19 1) 18 0 23 0) 29 0 0 (M1.1 23 0 0)) 29 0 1 (M1.1 23 0 1)) 29 0 2 (M1.1 23 0 2))) (L := [some (zR 18 0), some (zJ a1), none, some (zI 3)]) (st := [zR 18 0]) (pn := 74) (cl := false) rfl ?_
    refine zF.mono h (fun v M2 h cl2 => ?_)
    obtain ⟨r2, e2, h⟩ := h; subst e2; replace h := h cl2
    show zT 93 (74, [some (zR 18 0), some (zJ a1), none, some (zI 3)], [zI r2, zR 18 0], M2, cl2) _
    refine zT.it 1 (t := (77, [some (zR 18 0), some (zJ a1), none, some (zI 3)], [], (z_w M2 18 0 24 r2), false)) rfl ?_
    exact zT.ret (v := none) rfl trivial h
  · replace h := h.2.2 (Decidable.not_not.1 c)
    refine zT.it 3 (t := (66, [some (zR 18 0), some (zJ a1), none, some (zI 3)], [zI 0, zR 28 0, zR 18 0], (z_w (z_w (z_w (z_w (z_w (z_wl M1 18 0 21 r1) 18 0 19 1) 18 0 23 0) 29 0 0 (M1.1 23 0 0)) 29 0 1 (M1.1 23 0 1)) 29 0 2 (M1.1 23 0 2)), false)) rfl ?_
    refine zT.chk (t := (67, [some (zR 18 0), some (zJ a1), none, some (zI 3)], [zI (M1.1 28 0 0), zR 18 0], (z_w (z_w (z_w (z_w (z_w (z_wl M1 18 0 21 r1) 18 0 19 1) 18 0 23 0) 29 0 0 (M1.1 23 0 0)) 29 0 1 (M1.1 23 0 1)) 29 0 2 (M1.1 23 0 2)), false)) rfl (by first | decide | (dsimp only; decide)) ?_
    refine zT.it 2 (t := (77, [some (zR 18 0), some (zJ a1), none, some (zI 3)], [], (z_w (z_w (z_w (z_w (z_w (z_w (z_wl M1 18 0 21 r1) 18 0 19 1) 18 0 23 0) 29 0 0 (M1.1 23 0 0)) 29 0 1 (M1.1 23 0 1)) 29 0 2 (M1.1 23 0 2)) 18 0 24 (M1.1 28 0 0)), false)) rfl ?_
    exact zT.ret (v := none) rfl trivial h
theorem g94_0 {a1 : Int} {M : zM} {Q : zQ} (h : zF 89 [zR 18 0, zI 0] M (fun v M1 => ∃ r1 : Int, v = some (zI r1) ∧ ∀ cl1 : Bool, (z_wi a1 27) ∧ (zF 59 [zI (M1.1 26 0 a1.toNat)] M1 (fun v M2 => ∃ r2 : Int, v = some (zI r2) ∧ ∀ cl2 : Bool, (z_dv (((2 * r2) * (M2.1 18 0 23)) + r1) (2 * r1)) ∧ ((z_wi a1 3) ∧ ((zr (M1.1 26 0 a1.toNat)) ∧ ((0 ≤ (M1.1 26 0 a1.toNat) → Q (.inl (some (zI ((M2.1 29 0 a1.toNat) + ((((2 * r2) * (M2.1 18 0 23)) + r1) / (2 * r1)))))) M2 cl2 0) ∧ (¬ (0 ≤ (M1.1 26 0 a1.toNat)) → Q (.inl (some (zI ((M2.1 29 0 a1.toNat) + (-((((2 * r2) * (M2.1 18 0 23)) + r1) / (2 * r1))))))) M2 cl2 0)))))))) : zT 94 (0, [some (zR 18 0), some (zI a1), none, none, none], [], M, true) Q := by
  refine zT.it 2 (t := (2, [some (zR 18 0), some (zI a1), none, none, none], [zI 0, zR 18 0], M, true)) rfl ?_
  refine zT.call (m := 89) (as := [zR 18 0, zI 0]) (M := M) (L := [some (zR 18 0), some (zI a1), none, none, none]) (st := []) (pn := 5) (cl := true) rfl ?_
  refine zF.mono h (fun v M1 h cl1 => ?_)
  obtain ⟨r1, e1, h⟩ := h; subst e1; replace h := h cl1
  show zT 94 (5, [some (zR 18 0), some (zI a1), none, none, none], [zI r1], M1, cl1) _
  refine zT.it 4 (t := (11, [some (zR 18 0), some (zI a1), some (zI r1), none, none], [zI a1, zR 26 0], M1, cl1)) rfl ?_
  refine zT.chk (p := z_wi a1 27) (t := (12, [some (zR 18 0), some (zI a1), some (zI r1), none, none], [zI (M1.1 26 0 a1.toNat)], M1, cl1)) rfl h.1 ?_
  replace h := h.2
  refine zT.it 3 (t := (15, [some (zR 18 0), some (zI a1), some (zI r1), some (zI (M1.1 26 0 a1.toNat)), none], [zI (M1.1 26 0 a1.toNat), zI 2], M1, cl1)) rfl ?_
  refine zT.call (m := 59) (as := [zI (M1.1 26 0 a1.toNat)]) (M := M1) (L := [some (zR 18 0), some (zI a1), some (zI r1), some (zI (M1.1 26 0 a1.toNat)), none]) (st := [zI 2]) (pn := 18) (cl := cl1) rfl ?_
  refine zF.mono h (fun v M2 h cl2 => ?_)
  obtain ⟨r2, e2, h⟩ := h; subst e2; replace h := h cl2
  show zT 94 (18, [some (zR 18 0), some (zI a1), some (zI r1), some (zI (M1.1 26 0 a1.toNat)), none], [zI r2, zI 2], M2, cl2) _
  refine zT.it 9 (t := (29, [some (zR 18 0), some (zI a1), some (zI r1), some (zI (M1.1 26 0 a1.toNat)), none], [zI (2 * r1), zI (((2 * r2) * (M2.1 18 0 23)) + r1)], M2, cl2)) rfl ?_
  refine zT.chk (p := z_dv (((2 * r2) * (M2.1 18 0 23)) + r1) (2 * r1)) (t := (30, [some (zR 18 0), some (zI a1), some (zI r1), some (zI (M1.1 26 0 a1.toNat)), none], [zI ((((2 * r2) * (M2.1 18 0 23)) + r1) / (2 * r1))], M2, cl2)) rfl h.1 ?_
  replace h := h.2
  refine zT.it 4 (t := (37, [some (zR 18 0), some (zI a1), some (zI r1), some (zI (M1.1 26 0 a1.toNat)), some (zI ((((2 * r2) * (M2.1 18 0 23)) + r1) / (2 * r1)))], [zI a1, zR 29 0], M2, cl2)) rfl ?_
  refine zT.chk (p := z_wi a1 3) (t := (38, [some (zR 18 0), some (zI a1), some (zI r1), some (zI (M1.1 26 0 a1.toNat)), some (zI ((((2 * r2) * (M2.1 18 0 23)) + r1) / (2 * r1)))], [zI (M2.1 29 0 a1.toNat)], M2, cl2)) rfl h.1 ?_
  replace h := h.2
  refine zT.it 1 (t := (39, [some (zR 18 0), some (zI a1), some (zI r1), some (zI (M1.1 26 0 a1.toNat)), some (zI ((((2 * r2) * (M2.1 18 0 23)) + r1) / (2 * r1)))], [zI (M1.1 26 0 a1.toNat), zI (M2.1 29 0 a1.toNat)], M2, cl2)) rfl ?_
  refine zT.br (g := zr (M1.1 26 0 a1.toNat)) (p := 0 ≤ (M1.1 26 0 a1.toNat)) (t := (48, [some (zR 18 0), some (zI a1), some (zI r1), some (zI (M1.1 26 0 a1.toNat)), some (zI ((((2 * r2) * (M2.1 18 0 23)) + r1) / (2 * r1)))], [zI (M2.1 29 0 a1.toNat)], M2, cl2)) (u := (42, [some (zR 18 0), some (zI a1), some (zI r1), some (zI (M1.1 26 0 a1.toNat)), some (zI ((((2 * r2) * (M2.1 18 0 23)) + r1) / (2 * r1)))], [zI (M2.1 29 0 a1.toNat)], M2, cl2)) rfl h.1 (fun c => ?_) (fun c => ?_)
  · replace h := h.2.1 c
    refine zT.it 2 (t := (51, [some (zR 18 0), some (zI a1), some (zI r1), some (zI (M1.1 26 0 a1.toNat)), some (zI ((((2 * r2) * (M2.1 18 0 23)) + r1) / (2 * r1)))], [zI ((M2.1 29 0 a1.toNat) + ((((2 * r2) * (M2.1 18 0 23)) + r1) / (2 * r1)))], M2, cl2)) rfl ?_
    exact zT.ret (v := some (zI ((M2.1 29 0 a1.toNat) + ((((2 * r2) * (M2.1 18 0 23)) + r1) / (2 * r1))))) rfl (by first | exact trivial | decide) h
  · replace h := h.2.2 c
    refine zT.it 4 (t := (51, [some (zR 18 0), some (zI a1), some (zI r1), some (zI (M1.1 26 0 a1.toNat)), some (zI ((((2 * r2) * (M2.1 18 0 23)) + r1) / (2 * r1)))], [zI ((M2.1 29 0 a1.toNat) + (-((((2 * r2) * (M2.1 18 0 23)) + r1) / (2 * r1))))], M2, cl2)) rfl ?_
    exact zT.ret (v := some (zI ((M2.1 29 0 a1.toNat) + (-((((2 * r2) * (M2.1 18 0 23)) + r1) / (2 * r1)))))) rfl (by first | exact trivial | decide) h
theorem g95_0 {M : zM} {Q : zQ} (h : zT 95 (12, [some (zR 18 0), some (zI 0), none], [], (z_w M 18 0 15 ((M.1 18 0 15) - 1)), false) Q) : zT 95 (0, [some (zR 18 0), none, none], [], M, true) Q := by
  refine zT.it 8 (t := (12, [some (zR 18 0), some (zI 0), none], [], (z_w M 18 0 15 ((M.1 18 0 15) - 1)), false)) rfl ?_
  exact h
theorem g95_12 {x1 : Int} {u2 : Option zV} {M : zM} {cl : Bool} {Q : zQ} (h : (zr x1 ∧ zr (M.1 18 0 15)) ∧ (((M.1 18 0 15) ≤ x1 → Q (.inl none) M cl 0) ∧ (¬ ((M.1 18 0 15) ≤ x1) → (z_wi (x1 + 1) 9) ∧ ((z_wi x1 9) ∧ ((z_wi (x1 + 1) 9) ∧ ((z_wi x1 9) ∧ (zT 95 (50, [some (zR 18 0), some (zI x1), some (zI 0)], [], (z_w (z_w M 27 0 x1.toNat (M.1 27 0 ((x1 + 1).toNat))) 28 0 x1.toNat (M.1 28 0 ((x1 + 1).toNat))), false) Q))))))) : zT 95 (12, [some (zR 18 0), some (zI x1), u2], [], M, cl) Q := by
  refine zT.it 3 (t := (17, [some (zR 18 0), some (zI x1), u2], [zI (M.1 18 0 15), zI x1], M, cl)) rfl ?_
  refine zT.br (g := zr x1 ∧ zr (M.1 18 0 15)) (p := (M.1 18 0 15) ≤ x1) (t := (89, [some (zR 18 0), some (zI x1), u2], [], M, cl)) (u := (20, [some (zR 18 0), some (zI x1), u2], [], M, cl)) rfl h.1 (fun c => ?_) (fun c => ?_)
  · replace h := h.2.1 c
    exact zT.ret (v := none) rfl trivial h
  · replace h := h.2.2 c
    refine zT.it 8 (t := (32, [some (zR 18 0), some (zI x1), u2], [zI (x1 + 1), zR 27 0, zI x1, zR 27 0], M, cl)) rfl ?_
    refine zT.chk (p := z_wi (x1 + 1) 9) (t := (33, [some (zR 18 0), some (zI x1), u2], [zI (M.1 27 0 ((x1 + 1).toNat)), zI x1, zR 27 0], M, cl)) rfl h.1 ?_
    replace h := h.2
    refine zT.chk (p := z_wi x1 9) (t := (34, [some (zR 18 0), some (zI x1), u2], [], (z_w M 27 0 x1.toNat (M.1 27 0 ((x1 + 1).toNat))), false)) rfl h.1 ?_
    replace h := h.2
    refine zT.it 8 (t := (46, [some (zR 18 0), some (zI x1), u2], [zI (x1 + 1), zR 28 0, zI x1, zR 28 0], (z_w M 27 0 x1.toNat (M.1 27 0 ((x1 + 1).toNat))), false)) rfl ?_
    refine zT.chk (p := z_wi (x1 + 1) 9) (t := (47, [some (zR 18 0), some (zI x1), u2], [zI (M.1 28 0 ((x1 + 1).toNat)), zI x1, zR 28 0], (z_w M 27 0 x1.toNat (M.1 27 0 ((x1 + 1).toNat))), false)) rfl h.1 ?_
    replace h := h.2
    refine zT.chk (p := z_wi x1 9) (t := (48, [some (zR 18 0), some (zI x1), u2], [], (z_w (z_w M 27 0 x1.toNat (M.1 27 0 ((x1 + 1).toNat))) 28 0 x1.toNat (M.1 28 0 ((x1 + 1).toNat))), false)) rfl h.1 ?_
    replace h := h.2
    refine zT.it 2 (t := (50, [some (zR 18 0), some (zI x1), some (zI 0)], [], (z_w (z_w M 27 0 x1.toNat (M.1 27 0 ((x1 + 1).toNat))) 28 0 x1.toNat (M.1 28 0 ((x1 + 1).toNat))), false)) rfl ?_
    exact h
theorem g95_50a0 {x1 : Int} {M : zM} {cl : Bool} {Q : zQ} (h : (z_wi (((3 * x1) + 3) + 0) 27) ∧ ((z_wi ((3 * x1) + 0) 27) ∧ (zT 95 (50, [some (zR 18 0), some (zI x1), some (zI 1)], [], (z_w M 26 0 (((3 * x1) + 0).toNat) (M.1 26 0 ((((3 * x1) + 3) + 0).toNat))), false) Q))) : zT 95 (50, [some (zR 18 0), some (zI x1), some (zI 0)], [], M, cl) Q := by
  refine zT.it 2 (t := (52, [some (zR 18 0), some (zI x1), some (zI 0)], [zI 3, zI 0], M, cl)) rfl ?_
  refine zT.br (g := zr 0 ∧ zr 3) (p := 3 ≤ 0) (t := (83, [some (zR 18 0), some (zI x1), some (zI 0)], [], M, cl)) (u := (55, [some (zR 18 0), some (zI x1), some (zI 0)], [], M, cl)) rfl (by decide) (fun c => absurd c (by decide)) (fun c => ?_)
  refine zT.it 16 (t := (75, [some (zR 18 0), some (zI x1), some (zI 0)], [zI (((3 * x1) + 3) + 0), zR 26 0, zI ((3 * x1) + 0), zR 26 0], M, cl)) rfl ?_
  refine zT.chk (p := z_wi (((3 * x1) + 3) + 0) 27) (t := (76, [some (zR 18 0), some (zI x1), some (zI 0)], [zI (M.1 26 0 ((((3 * x1) + 3) + 0).toNat)), zI ((3 * x1) + 0), zR 26 0], M, cl)) rfl h.1 ?_
  replace h := h.2
  refine zT.chk (p := z_wi ((3 * x1) + 0) 27) (t := (77, [some (zR 18 0), some (zI x1), some (zI 0)], [], (z_w M 26 0 (((3 * x1) + 0).toNat) (M.1 26 0 ((((3 * x1) + 3) + 0).toNat))), false)) rfl h.1 ?_
  replace h := h.2
  refine zT.it 2 (t := (50, [some (zR 18 0), some (zI x1), some (zI 1)], [], (z_w M 26 0 (((3 * x1) + 0).toNat) (M.1 26 0 ((((3 * x1) + 3) + 0).toNat))), false)) rfl ?_
  exact h
theorem g95_50a1 {x1 : Int} {M : zM} {cl : Bool} {Q : zQ} (h : (z_wi (((3 * x1) + 3) + 1) 27) ∧ ((z_wi ((3 * x1) + 1) 27) ∧ (zT 95 (50, [some (zR 18 0), some (zI x1), some (zI 2)], [], (z_w M 26 0 (((3 * x1) + 1).toNat) (M.1 26 0 ((((3 * x1) + 3) + 1).toNat))), false) Q))) : zT 95 (50, [some (zR 18 0), some (zI x1), some (zI 1)], [], M, cl) Q := by
  refine zT.it 2 (t := (52, [some (zR 18 0), some (zI x1), some (zI 1)], [zI 3, zI 1], M, cl)) rfl ?_
  refine zT.br (g := zr 1 ∧ zr 3) (p := 3 ≤ 1) (t := (83, [some (zR 18 0), some (zI x1), some (zI 1)], [], M, cl)) (u := (55, [some (zR 18 0), some (zI x1), some (zI 1)], [], M, cl)) rfl (by decide) (fun c => absurd c (by decide)) (fun c => ?_)
  refine zT.it 16 (t := (75, [some (zR 18 0), some (zI x1), some (zI 1)], [zI (((3 * x1) + 3) + 1), zR 26 0, zI ((3 * x1) + 1), zR 26 0], M, cl)) rfl ?_
  refine zT.chk (p := z_wi (((3 * x1) + 3) + 1) 27) (t := (76, [some (zR 18 0), some (zI x1), some (zI 1)], [zI (M.1 26 0 ((((3 * x1) + 3) + 1).toNat)), zI ((3 * x1) + 1), zR 26 0], M, cl)) rfl h.1 ?_
  replace h := h.2
  refine zT.chk (p := z_wi ((3 * x1) + 1) 27) (t := (77, [some (zR 18 0), some (zI x1), some (zI 1)], [], (z_w M 26 0 (((3 * x1) + 1).toNat) (M.1 26 0 ((((3 * x1) + 3) + 1).toNat))), false)) rfl h.1 ?_
  replace h := h.2
  refine zT.it 2 (t := (50, [some (zR 18 0), some (zI x1), some (zI 2)], [], (z_w M 26 0 (((3 * x1) + 1).toNat) (M.1 26 0 ((((3 * x1) + 3) + 1).toNat))), false)) rfl ?_
  exact h
theorem g95_50a2 {x1 : Int} {M : zM} {cl : Bool} {Q : zQ} (h : (z_wi (((3 * x1) + 3) + 2) 27) ∧ ((z_wi ((3 * x1) + 2) 27) ∧ (zT 95 (50, [some (zR 18 0), some (zI x1), some (zI 3)], [], (z_w M 26 0 (((3 * x1) + 2).toNat) (M.1 26 0 ((((3 * x1) + 3) + 2).toNat))), false) Q))) : zT 95 (50, [some (zR 18 0), some (zI x1), some (zI 2)], [], M, cl) Q := by
  refine zT.it 2 (t := (52, [some (zR 18 0), some (zI x1), some (zI 2)], [zI 3, zI 2], M, cl)) rfl ?_
  refine zT.br (g := zr 2 ∧ zr 3) (p := 3 ≤ 2) (t := (83, [some (zR 18 0), some (zI x1), some (zI 2)], [], M, cl)) (u := (55, [some (zR 18 0), some (zI x1), some (zI 2)], [], M, cl)) rfl (by decide) (fun c => absurd c (by decide)) (fun c => ?_)
  refine zT.it 16 (t := (75, [some (zR 18 0), some (zI x1), some (zI 2)], [zI (((3 * x1) + 3) + 2), zR 26 0, zI ((3 * x1) + 2), zR 26 0], M, cl)) rfl ?_
  refine zT.chk (p := z_wi (((3 * x1) + 3) + 2) 27) (t := (76, [some (zR 18 0), some (zI x1), some (zI 2)], [zI (M.1 26 0 ((((3 * x1) + 3) + 2).toNat)), zI ((3 * x1) + 2), zR 26 0], M, cl)) rfl h.1 ?_
  replace h := h.2
  refine zT.chk (p := z_wi ((3 * x1) + 2) 27) (t := (77, [some (zR 18 0), some (zI x1), some (zI 2)], [], (z_w M 26 0 (((3 * x1) + 2).toNat) (M.1 26 0 ((((3 * x1) + 3) + 2).toNat))), false)) rfl h.1 ?_
  replace h := h.2
  refine zT.it 2 (t := (50, [some (zR 18 0), some (zI x1), some (zI 3)], [], (z_w M 26 0 (((3 * x1) + 2).toNat) (M.1 26 0 ((((3 * x1) + 3) + 2).toNat))), false)) rfl ?_
  exact h
theorem g95_50a3 {x1 : Int} {M : zM} {cl : Bool} {Q : zQ} (h : zT 95 (12, [some (zR 18 0), some (zI (x1 + 1)), some (zI 3)], [], M, cl) Q) : zT 95 (50, [some (zR 18 0), some (zI x1), some (zI 3)], [], M, cl) Q := by
  refine zT.it 2 (t := (52, [some (zR 18 0), some (zI x1), some (zI 3)], [zI 3, zI 3], M, cl)) rfl ?_
  refine zT.br (g := zr 3 ∧ zr 3) (p := 3 ≤ 3) (t := (83, [some (zR 18 0), some (zI x1), some (zI 3)], [], M, cl)) (u := (55, [some (zR 18 0), some (zI x1), some (zI 3)], [], M, cl)) rfl (by decide) (fun c => ?_) (fun c => absurd (by decide) c)
  refine zT.it 2 (t := (12, [some (zR 18 0), some (zI (x1 + 1)), some (zI 3)], [], M, cl)) rfl ?_
  exact h
theorem g96_0 {M : zM} {Q : zQ} (h : zF 95 [zR 18 0] (z_w M 18 0 19 0) (fun v M1 => v = none ∧ ∀ cl1 : Bool, (z_dv ((M1.1 18 0 29) + 1) 2) ∧ ((zr (M1.1 18 0 28)) ∧ ((0 ≤ (M1.1 18 0 28) → zT 96 (53, [some (zR 18 0), some (zJ (M.2.1 18 0 21)), none, some (zI (4 * (((M1.1 18 0 29) + 1) % 2))), some (zI (M1.1 18 0 28)), some (zI 0)], [], (z_w M1 18 0 29 ((M1.1 18 0 29) + 1)), false) Q) ∧ (¬ (0 ≤ (M1.1 18 0 28)) → zT 96 (53, [some (zR 18 0), some (zJ (M.2.1 18 0 21)), none, some (zI (4 * (((M1.1 18 0 29) + 1) % 2))), some (zI 5), some (zI 0)], [], (z_w M1 18 0 29 ((M1.1 18 0 29) + 1)), false) Q))))) : zT 96 (0, [some (zR 18 0), none, none, none, none, none], [], M, true) Q := by
  refine zT.it 5 (t := (7, [some (zR 18 0), some (zJ (M.2.1 18 0 21)), none, none, none, none], [zI 0, zR 18 0], M, true)) rfl ?_
  refine zT.chk (t := (10, [some (zR 18 0), some (zJ (M.2.1 18 0 21)), none, none, none, none], [], (z_w M 18 0 19 0), false)) rfl (by first | decide | (dsimp only; decide)) ?_
  refine zT.it 1 (t := (11, [some (zR 18 0), some (zJ (M.2.1 18 0 21)), none, none, none, none], [zR 18 0], (z_w M 18 0 19 0), false)) rfl ?_
  refine zT.call (m := 95) (as := [zR 18 0]) (M := (z_w M 18 0 19 0)) (L := [some (zR 18 0), some (zJ (M.2.1 18 0 21)), none, none, none, none]) (st := []) (pn := 14) (cl := false) rfl ?_
  refine zF.mono h (fun v M1 h cl1 => ?_)
  obtain ⟨e1, h⟩ := h; subst e1; replace h := h cl1
  show zT 96 (14, [some (zR 18 0), some (zJ (M.2.1 18 0 21)), none, none, none, none], [], M1, cl1) _
  refine zT.it 10 (t := (30, [some (zR 18 0), some (zJ (M.2.1 18 0 21)), none, none, none, none], [zI 2, zI ((M1.1 18 0 29) + 1), zI 4], (z_w M1 18 0 29 ((M1.1 18 0 29) + 1)), false)) rfl ?_
  refine zT.chk (p := z_dv ((M1.1 18 0 29) + 1) 2) (t := (31, [some (zR 18 0), some (zJ (M.2.1 18 0 21)), none, none, none, none], [zI (((M1.1 18 0 29) + 1) % 2), zI 4], (z_w M1 18 0 29 ((M1.1 18 0 29) + 1)), false)) rfl h.1 ?_
  replace h := h.2
  refine zT.it 4 (t := (37, [some (zR 18 0), some (zJ (M.2.1 18 0 21)), none, some (zI (4 * (((M1.1 18 0 29) + 1) % 2))), none, none], [zI (M1.1 18 0 28)], (z_w M1 18 0 29 ((M1.1 18 0 29) + 1)), false)) rfl ?_
  refine zT.br (g := zr (M1.1 18 0 28)) (p := 0 ≤ (M1.1 18 0 28)) (t := (44, [some (zR 18 0), some (zJ (M.2.1 18 0 21)), none, some (zI (4 * (((M1.1 18 0 29) + 1) % 2))), none, none], [], (z_w M1 18 0 29 ((M1.1 18 0 29) + 1)), false)) (u := (40, [some (zR 18 0), some (zJ (M.2.1 18 0 21)), none, some (zI (4 * (((M1.1 18 0 29) + 1) % 2))), none, none], [], (z_w M1 18 0 29 ((M1.1 18 0 29) + 1)), false)) rfl h.1 (fun c => ?_) (fun c => ?_)
  · replace h := h.2.1 c
    refine zT.it 5 (t := (53, [some (zR 18 0), some (zJ (M.2.1 18 0 21)), none, some (zI (4 * (((M1.1 18 0 29) + 1) % 2))), some (zI (M1.1 18 0 28)), some (zI 0)], [], (z_w M1 18 0 29 ((M1.1 18 0 29) + 1)), false)) rfl ?_
    exact h
  · replace h := h.2.2 c
    refine zT.it 5 (t := (53, [some (zR 18 0), some (zJ (M.2.1 18 0 21)), none, some (zI (4 * (((M1.1 18 0 29) + 1) % 2))), some (zI 5), some (zI 0)], [], (z_w M1 18 0 29 ((M1.1 18 0 29) + 1)), false)) rfl ?_
    exact h
theorem g96_53a0 {x1 : Int} {x3 : Int} {x4 : Int} {M : zM} {cl : Bool} {Q : zQ} (h : (zr 0 ∧ zr x4) ∧ ((x4 ≤ 0 → (zr (M.1 18 0 28)) ∧ (((M.1 18 0 28) < 0 → (zr (M.1 18 0 25)) ∧ ((¬ (M.1 18 0 25) = 0 → Q (.inl none) M cl 0) ∧ ((M.1 18 0 25) = 0 → (zr (M.1 18 0 15)) ∧ (((M.1 18 0 15) ≤ 0 → Q (.inl none) M cl 0) ∧ (¬ ((M.1 18 0 15) ≤ 0) → zF 93 [zR 18 0, zJ x1] M (fun v M2 => v = none ∧ ∀ cl2 : Bool, Q (.inl none) M2 cl2 0)))))) ∧ (¬ ((M.1 18 0 28) < 0) → zT 96 (156, [some (zR 18 0), some (zJ x1), none, some (zI x3), some (zI x4), some (zI 0)], [], (z_w (z_w (z_w (z_w (z_w M 18 0 26 1) 18 0 28 (-1)) 18 0 25 0) 18 0 2 0) 18 0 15 0), false) Q))) ∧ (¬ (x4 ≤ 0) → (z_wi (x3 + 3) 8) ∧ (zT 96 (53, [some (zR 18 0), some (zJ x1), none, some (zI x3), some (zI x4), some (zI 1)], [], (z_w M 30 0 ((x3 + 3).toNat) 0), false) Q)))) : zT 96 (53, [some (zR 18 0), some (zJ x1), none, some (zI x3), some (zI x4), some (zI 0)], [], M, cl) Q := by
  refine zT.it 2 (t := (57, [some (zR 18 0), some (zJ x1), none, some (zI x3), some (zI x4), some (zI 0)], [zI x4, zI 0], M, cl)) rfl ?_
  refine zT.br (g := zr 0 ∧ zr x4) (p := x4 ≤ 0) (t := (121, [some (zR 18 0), some (zJ x1), none, some (zI x3), some (zI x4), some (zI 0)], [], M, cl)) (u := (60, [some (zR 18 0), some (zJ x1), none, some (zI x3), some (zI x4), some (zI 0)], [], M, cl)) rfl h.1 (fun c => ?_) (fun c => ?_)
  · replace h := h.2.1 c
    refine zT.it 2 (t := (125, [some (zR 18 0), some (zJ x1), none, some (zI x3), some (zI x4), some (zI 0)], [zI (M.1 18 0 28)], M, cl)) rfl ?_
    refine zT.br (g := zr (M.1 18 0 28)) (p := (M.1 18 0 28) < 0) (t := (185, [some (zR 18 0), some (zJ x1), none, some (zI x3), some (zI x4), some (zI 0)], [], M, cl)) (u := (128, [some (zR 18 0), some (zJ x1), none, some (zI x3), some (zI x4), some (zI 0)], [], M, cl)) rfl h.1 (fun c => ?_) (fun c => ?_)
    · replace h := h.2.1 c
      refine zT.it 2 (t := (189, [some (zR 18 0), some (zJ x1), none, some (zI x3), some (zI x4), some (zI 0)], [zI (M.1 18 0 25)], M, cl)) rfl ?_
      refine zT.br (g := zr (M.1 18 0 25)) (p := ¬ (M.1 18 0 25) = 0) (t := (204, [some (zR 18 0), some (zJ x1), none, some (zI x3), some (zI x4), some (zI 0)], [], M, cl)) (u := (192, [some (zR 18 0), some (zJ x1), none, some (zI x3), some (zI x4), some (zI 0)], [], M, cl)) rfl h.1 (fun c => ?_) (fun c => ?_)
      · replace h := h.2.1 c
        exact zT.ret (v := none) rfl trivial h
      · replace h := h.2.2 (Decidable.not_not.1 c)
        refine zT.it 2 (t := (196, [some (zR 18 0), some (zJ x1), none, some (zI x3), some (zI x4), some (zI 0)], [zI (M.1 18 0 15)], M, cl)) rfl ?_
        refine zT.br (g := zr (M.1 18 0 15)) (p := (M.1 18 0 15) ≤ 0) (t := (204, [some (zR 18 0), some (zJ x1), none, some (zI x3), some (zI x4), some (zI 0)], [], M, cl)) (u := (199, [some (zR 18 0), some (zJ x1), none, some (zI x3), some (zI x4), some (zI 0)], [], M, cl)) rfl h.1 (fun c => ?_) (fun c => ?_)
        · replace h := h.2.1 c
          exact zT.ret (v := none) rfl trivial h
        · replace h := h.2.2 c
          refine zT.it 2 (t := (201, [some (zR 18 0), some (zJ x1), none, some (zI x3), some (zI x4), some (zI 0)], [zJ x1, zR 18 0], M, cl)) rfl ?_
          refine zT.call (m := 93) (as := [zR 18 0, zJ x1]) (M := M) (L := [some (zR 18 0), some (zJ x1), none, some (zI x3), some (zI x4), some (zI 0)]) (st := []) (pn := 204) (cl := cl) rfl ?_
          refine zF.mono h (fun v M2 h cl2 => ?_)
          obtain ⟨e2, h⟩ := h; subst e2; replace h := h cl2
          show zT 96 (204, [some (zR 18 0), some (zJ x1), none, some (zI x3), some (zI x4), some (zI 0)], [], M2, cl2) _
          exact zT.ret (v := none) rfl trivial h
    · replace h := h.2.2 c
      refine zT.it 2 (t := (130, [some (zR 18 0), some (zJ x1), none, some (zI x3), some (zI x4), some (zI 0)], [zI 1, zR 18 0], M, cl)) rfl ?_
      refine zT.chk (t := (133, [some (zR 18 0), some (zJ x1), none, some (zI x3), some (zI x4), some (zI 0)], [], (z_w M 18 0 26 1), false)) rfl (by first | decide | (dsimp only; decide)) ?_
      refine zT.it 5 (t := (140, [some (zR 18 0), some (zJ x1), none, some (zI x3), some (zI x4), some (zI 0)], [zI 0, zR 18 0], (z_w (z_w M 18 0 26 1) 18 0 28 (-1)), false)) rfl ?_
      refine zT.chk (t := (143, [some (zR 18 0), some (zJ x1), none, some (zI x3), some (zI x4), some (zI 0)], [], (z_w (z_w (z_w M 18 0 26 1) 18 0 28 (-1)) 18 0 25 0), false)) rfl (by first | decide | (dsimp only; decide)) ?_
      refine zT.it 8 (t := (156, [some (zR 18 0), some (zJ x1), none, some (zI x3), some (zI x4), some (zI 0)], [], (z_w (z_w (z_w (z_w (z_w M 18 0 26 1) 18 0 28 (-1)) 18 0 25 0) 18 0 2 0) 18 0 15 0), false)) rfl ?_
      exact h
  · replace h := h.2.2 c
    refine zT.it 1 (t := (62, [some (zR 18 0), some (zJ x1), none, some (zI x3), some (zI x4), some (zI 0)], [zI 0], M, cl)) rfl ?_
    refine zT.br (g := zr 0) (p := 0 ≤ 0) (t := (94, [some (zR 18 0), some (zJ x1), none, some (zI x3), some (zI x4), some (zI 0)], [], M, cl)) (u := (65, [some (zR 18 0), some (zJ x1), none, some (zI x3), some (zI x4), some (zI 0)], [], M, cl)) rfl (by decide) (fun c => ?_) (fun c => absurd (by decide) c)
    refine zT.it 6 (t := (103, [some (zR 18 0), some (zJ x1), none, some (zI x3), some (zI x4), some (zI 0)], [zI 0, zI (x3 + 3), zR 30 0], M, cl)) rfl ?_
    refine zT.br (g := zr 0) (p := ¬ 0 = 0) (t := (110, [some (zR 18 0), some (zJ x1), none, some (zI x3), some (zI x4), some (zI 0)], [zI (x3 + 3), zR 30 0], M, cl)) (u := (106, [some (zR 18 0), some (zJ x1), none, some (zI x3), some (zI x4), some (zI 0)], [zI (x3 + 3), zR 30 0], M, cl)) rfl (by decide) (fun c => absurd c (by decide)) (fun c => ?_)
    refine zT.it 2 (t := (114, [some (zR 18 0), some (zJ x1), none, some (zI x3), some (zI x4), some (zI 0)], [zI 0, zI (x3 + 3), zR 30 0], M, cl)) rfl ?_
    refine zT.chk (p := z_wi (x3 + 3) 8) (t := (115, [some (zR 18 0), some (zJ x1), none, some (zI x3), some (zI x4), some (zI 0)], [], (z_w M 30 0 ((x3 + 3).toNat) 0), false)) rfl h.1 ?_
    replace h := h.2
    refine zT.it 2 (t := (53, [some (zR 18 0), some (zJ x1), none, some (zI x3), some (zI x4), some (zI 1)], [], (z_w M 30 0 ((x3 + 3).toNat) 0), false)) rfl ?_
    exact h
theorem g96_53a1 {x1 : Int} {x3 : Int} {x4 : Int} {M : zM} {cl : Bool} {Q : zQ} (h : (zr 1 ∧ zr x4) ∧ ((x4 ≤ 1 → (zr (M.1 18 0 28)) ∧ (((M.1 18 0 28) < 0 → (zr (M.1 18 0 25)) ∧ ((¬ (M.1 18 0 25) = 0 → Q (.inl none) M cl 0) ∧ ((M.1 18 0 25) = 0 → (zr (M.1 18 0 15)) ∧ (((M.1 18 0 15) ≤ 0 → Q (.inl none) M cl 0) ∧ (¬ ((M.1 18 0 15) ≤ 0) → zF 93 [zR 18 0, zJ x1] M (fun v M3 => v = none ∧ ∀ cl3 : Bool, Q (.inl none) M3 cl3 0)))))) ∧ (¬ ((M.1 18 0 28) < 0) → zT 96 (156, [some (zR 18 0), some (zJ x1), none, some (zI x3), some (zI x4), some (zI 0)], [], (z_w (z_w (z_w (z_w (z_w M 18 0 26 1) 18 0 28 (-1)) 18 0 25 0) 18 0 2 0) 18 0 15 0), false) Q))) ∧ (¬ (x4 ≤ 1) → (z_wi ((x3 + 1) - 1) 8) ∧ (zT 96 (53, [some (zR 18 0), some (zJ x1), none, some (zI x3), some (zI x4), some (zI 2)], [], (z_w M 30 0 (((x3 + 1) - 1).toNat) (M.1 23 0 0)), false) Q)))) : zT 96 (53, [some (zR 18 0), some (zJ x1), none, some (zI x3), some (zI x4), some (zI 1)], [], M, cl) Q := by
  refine zT.it 2 (t := (57, [some (zR 18 0), some (zJ x1), none, some (zI x3), some (zI x4), some (zI 1)], [zI x4, zI 1], M, cl)) rfl ?_
  refine zT.br (g := zr 1 ∧ zr x4) (p := x4 ≤ 1) (t := (121, [some (zR 18 0), some (zJ x1), none, some (zI x3), some (zI x4), some (zI 1)], [], M, cl)) (u := (60, [some (zR 18 0), some (zJ x1), none, some (zI x3), some (zI x4), some (zI 1)], [], M, cl)) rfl h.1 (fun c => ?_) (fun c => ?_)
  · replace h := h.2.1 c
    refine zT.it 2 (t := (125, [some (zR 18 0), some (zJ x1), none, some (zI x3), some (zI x4), some (zI 1)], [zI (M.1 18 0 28)], M, cl)) rfl ?_
    refine zT.br (g := zr (M.1 18 0 28)) (p := (M.1 18 0 28) < 0) (t := (185, [some (zR 18 0), some (zJ x1), none, some (zI x3), some (zI x4), some (zI 1)], [], M, cl)) (u := (128, [some (zR 18 0), some (zJ x1), none, some (zI x3), some (zI x4), some (zI 1)], [], M, cl)) rfl h.1 (fun c => ?_) (fun c => ?_)
    · replace h := h.2.1 c
      refine zT.it 2 (t := (189, [some (zR 18 0), some (zJ x1), none, some (zI x3), some (zI x4), some (zI 1)], [zI (M.1 18 0 25)], M, cl)) rfl ?_
      refine zT.br (g := zr (M.1 18 0 25)) (p := ¬ (M.1 18 0 25) = 0) (t := (204, [some (zR 18 0), some (zJ x1), none, some (zI x3), some (zI x4), some (zI 1)], [], M, cl)) (u := (192, [some (zR 18 0), some (zJ x1), none, some (zI x3), some (zI x4), some (zI 1)], [], M, cl)) rfl h.1 (fun c => ?_) (fun c => ?_)
      · replace h := h.2.1 c
        exact zT.ret (v := none) rfl trivial h
      · replace h := h.2.2 (Decidable.not_not.1 c)
        refine zT.it 2 (t := (196, [some (zR 18 0), some (zJ x1), none, some (zI x3), some (zI x4), some (zI 1)], [zI (M.1 18 0 15)], M, cl)) rfl ?_
        refine zT.br (g := zr (M.1 18 0 15)) (p := (M.1 18 0 15) ≤ 0) (t := (204, [some (zR 18 0), some (zJ x1), none, some (zI x3), some (zI x4), some (zI 1)], [], M, cl)) (u := (199, [some (zR 18 0), some (zJ x1), none, some (zI x3), some (zI x4), some (zI 1)], [], M, cl)) rfl h.1 (fun c => ?_) (fun c => ?_)
        · replace h := h.2.1 c
          exact zT.ret (v := none) rfl trivial h
        · replace h := h.2.2 c
          refine zT.it 2 (t := (201, [some (zR 18 0), some (zJ x1), none, some (zI x3), some (zI x4), some (zI 1)], [zJ x1, zR 18 0], M, cl)) rfl ?_
          refine zT.call (m := 93) (as := [zR 18 0, zJ x1]) (M := M) (L := [some (zR 18 0), some (zJ x1), none, some (zI x3), some (zI x4), some (zI 1)]) (st := []) (pn := 204) (cl := cl) rfl ?_
          refine zF.mono h (fun v M3 h cl3 => ?_)
          obtain ⟨e3, h⟩ := h; subst e3; replace h := h cl3
          show zT 96 (204, [some (zR 18 0), some (zJ x1), none, some (zI x3), some (zI x4), some (zI 1)], [], M3, cl3) _
          exact zT.ret (v := none) rfl trivial h
    · replace h := h.2.2 c
      refine zT.it 2 (t := (130, [some (zR 18 0), some (zJ x1), none, some (zI x3), some (zI x4), some (zI 1)], [zI 1, zR 18 0], M, cl)) rfl ?_
      refine zT.chk (t := (133, [some (zR 18 0), some (zJ x1), none, some (zI x3), some (zI x4), some (zI 1)], [], (z_w M 18 0 26 1), false)) rfl (by first | decide | (dsimp only; decide)) ?_
      refine zT.it 5 (t := (140, [some (zR 18 0), some (zJ x1), none, some (zI x3), some (zI x4), some (zI 1)], [zI 0, zR 18 0], (z_w (z_w M 18 0 26 1) 18 0 28 (-1)), false)) rfl ?_
      refine zT.chk (t := (143, [some (zR 18 0), some (zJ x1), none, some (zI x3), some (zI x4), some (zI 1)], [], (z_w (z_w (z_w M 18 0 26 1) 18 0 28 (-1)) 18 0 25 0), false)) rfl (by first | decide | (dsimp only; decide)) ?_
      refine zT.it 8 (t := (156, [some (zR 18 0), some (zJ x1), none, some (zI x3), some (zI x4), some (zI 0)], [], (z_w (z_w (z_w (z_w (z_w M 18 0 26 1) 18 0 28 (-1)) 18 0 25 0) 18 0 2 0) 18 0 15 0), false)) rfl ?_
      exact h
  · replace h := h.2.2 c
    refine zT.it 1 (t := (62, [some (zR 18 0), some (zJ x1), none, some (zI x3), some (zI x4), some (zI 1)], [zI 1], M, cl)) rfl ?_
    refine zT.br (g := zr 1) (p := 1 ≤ 0) (t := (94, [some (zR 18 0), some (zJ x1), none, some (zI x3), some (zI x4), some (zI 1)], [], M, cl)) (u := (65, [some (zR 18 0), some (zJ x1), none, some (zI x3), some (zI x4), some (zI 1)], [], M, cl)) rfl (by decide) (fun c => absurd c (by decide)) (fun c => ?_)
    refine zT.it 2 (t := (68, [some (zR 18 0), some (zJ x1), none, some (zI x3), some (zI x4), some (zI 1)], [zI 4, zI 1], M, cl)) rfl ?_
    refine zT.br (g := zr 1 ∧ zr 4) (p := 4 ≤ 1) (t := (94, [some (zR 18 0), some (zJ x1), none, some (zI x3), some (zI x4), some (zI 1)], [], M, cl)) (u := (71, [some (zR 18 0), some (zJ x1), none, some (zI x3), some (zI x4), some (zI 1)], [], M, cl)) rfl (by decide) (fun c => absurd c (by decide)) (fun c => ?_)
    refine zT.it 12 (t := (89, [some (zR 18 0), some (zJ x1), none, some (zI x3), some (zI x4), some (zI 1)], [zI 0, zR 23 0, zI ((x3 + 1) - 1), zR 30 0], M, cl)) rfl ?_
    refine zT.chk (t := (90, [some (zR 18 0), some (zJ x1), none, some (zI x3), some (zI x4), some (zI 1)], [zI (M.1 23 0 0), zI ((x3 + 1) - 1), zR 30 0], M, cl)) rfl (by first | decide | (dsimp only; decide)) ?_
    refine zT.chk (p := z_wi ((x3 + 1) - 1) 8) (t := (91, [some (zR 18 0), some (zJ x1), none, some (zI x3), some (zI x4), some (zI 1)], [], (z_w M 30 0 (((x3 + 1) - 1).toNat) (M.1 23 0 0)), false)) rfl h.1 ?_
    replace h := h.2
    refine zT.it 3 (t := (53, [some (zR 18 0), some (zJ x1), none, some (zI x3), some (zI x4), some (zI 2)], [], (z_w M 30 0 (((x3 + 1) - 1).toNat) (M.1 23 0 0)), false)) rfl ?_
    exact h
theorem g96_53a2 {x1 : Int} {x3 : Int} {x4 : Int} {M : zM} {cl : Bool} {Q : zQ} (h : (zr 2 ∧ zr x4) ∧ ((x4 ≤ 2 → (zr (M.1 18 0 28)) ∧ (((M.1 18 0 28) < 0 → (zr (M.1 18 0 25)) ∧ ((¬ (M.1 18 0 25) = 0 → Q (.inl none) M cl 0) ∧ ((M.1 18 0 25) = 0 → (zr (M.1 18 0 15)) ∧ (((M.1 18 0 15) ≤ 0 → Q (.inl none) M cl 0) ∧ (¬ ((M.1 18 0 15) ≤ 0) → zF 93 [zR 18 0, zJ x1] M (fun v M4 => v = none ∧ ∀ cl4 : Bool, Q (.inl none) M4 cl4 0)))))) ∧ (¬ ((M.1 18 0 28) < 0) → zT 96 (156, [some (zR 18 0), some (zJ x1), none, some (zI x3), some (zI x4), some (zI 0)], [], (z_w (z_w (z_w (z_w (z_w M 18 0 26 1) 18 0 28 (-1)) 18 0 25 0) 18 0 2 0) 18 0 15 0), false) Q))) ∧ (¬ (x4 ≤ 2) → (z_wi ((x3 + 2) - 1) 8) ∧ (zT 96 (53, [some (zR 18 0), some (zJ x1), none, some (zI x3), some (zI x4), some (zI 3)], [], (z_w M 30 0 (((x3 + 2) - 1).toNat) (M.1 23 0 1)), false) Q)))) : zT 96 (53, [some (zR 18 0), some (zJ x1), none, some (zI x3), some (zI x4), some (zI 2)], [], M, cl) Q := by
  refine zT.it 2 (t := (57, [some (zR 18 0), some (zJ x1), none, some (zI x3), some (zI x4), some (zI 2)], [zI x4, zI 2], M, cl)) rfl ?_
  refine zT.br (g := zr 2 ∧ zr x4) (p := x4 ≤ 2) (t := (121, [some (zR 18 0), some (zJ x1), none, some (zI x3), some (zI x4), some (zI 2)], [], M, cl)) (u := (60, [some (zR 18 0), some (zJ x1), none, some (zI x3), some (zI x4), some (zI 2)], [], M, cl)) rfl h.1 (fun c => ?_) (fun c => ?_)
  · replace h := h.2.1 c
    refine zT.it 2 (t := (125, [some (zR 18 0), some (zJ x1), none, some (zI x3), some (zI x4), some (zI 2)], [zI (M.1 18 0 28)], M, cl)) rfl ?_
    refine zT.br (g := zr (M.1 18 0 28)) (p := (M.1 18 0 28) < 0) (t := (185, [some (zR 18 0), some (zJ x1), none, some (zI x3), some (zI x4), some (zI 2)], [], M, cl)) (u := (128, [some (zR 18 0), some (zJ x1), none, some (zI x3), some (zI x4), some (zI 2)], [], M, cl)) rfl h.1 (fun c => ?_) (fun c => ?_)
    · replace h := h.2.1 c
      refine zT.it 2 (t := (189, [some (zR 18 0), some (zJ x1), none, some (zI x3), some (zI x4), some (zI 2)], [zI (M.1 18 0 25)], M, cl)) rfl ?_
      refine zT.br (g := zr (M.1 18 0 25)) (p := ¬ (M.1 18 0 25) = 0) (t := (204, [some (zR 18 0), some (zJ x1), none, some (zI x3), some (zI x4), some (zI 2)], [], M, cl)) (u := (192, [some (zR 18 0), some (zJ x1), none, some (zI x3), some (zI x4), some (zI 2)], [], M, cl)) rfl h.1 (fun c => ?_) (fun c => ?_)
      · replace h := h.2.1 c
        exact zT.ret (v := none) rfl trivial h
      · replace h := h.2.2 (Decidable.not_not.1 c)
        refine zT.it 2 (t := (196, [some (zR 18 0), some (zJ x1), none, some (zI x3), some (zI x4), some (zI 2)], [zI (M.1 18 0 15)], M, cl)) rfl ?_
        refine zT.br (g := zr (M.1 18 0 15)) (p := (M.1 18 0 15) ≤ 0) (t := (204, [some (zR 18 0), some (zJ x1), none, some (zI x3), some (zI x4), some (zI 2)], [], M, cl)) (u := (199, [some (zR 18 0), some (zJ x1), none, some (zI x3), some (zI x4), some (zI 2)], [], M, cl)) rfl h.1 (fun c => ?_) (fun c => ?_)
        · replace h := h.2.1 c
          exact zT.ret (v := none) rfl trivial h
        · replace h := h.2.2 c
          refine zT.it 2 (t := (201, [some (zR 18 0), some (zJ x1), none, some (zI x3), some (zI x4), some (zI 2)], [zJ x1, zR 18 0], M, cl)) rfl ?_
          refine zT.call (m := 93) (as := [zR 18 0, zJ x1]) (M := M) (L := [some (zR 18 0), some (zJ x1), none, some (zI x3), some (zI x4), some (zI 2)]) (st := []) (pn := 204) (cl := cl) rfl ?_
          refine zF.mono h (fun v M4 h cl4 => ?_)
          obtain ⟨e4, h⟩ := h; subst e4; replace h := h cl4
          show zT 96 (204, [some (zR 18 0), some (zJ x1), none, some (zI x3), some (zI x4), some (zI 2)], [], M4, cl4) _
          exact zT.ret (v := none) rfl trivial h
    · replace h := h.2.2 c
      refine zT.it 2 (t := (130, [some (zR 18 0), some (zJ x1), none, some (zI x3), some (zI x4), some (zI 2)], [zI 1, zR 18 0], M, cl)) rfl ?_
      refine zT.chk (t := (133, [some (zR 18 0), some (zJ x1), none, some (zI x3), some (zI x4), some (zI 2)], [], (z_w M 18 0 26 1), false)) rfl (by first | decide | (dsimp only; decide)) ?_
      refine zT.it 5 (t := (140, [some (zR 18 0), some (zJ x1), none, some (zI x3), some (zI x4), some (zI 2)], [zI 0, zR 18 0], (z_w (z_w M 18 0 26 1) 18 0 28 (-1)), false)) rfl ?_
      refine zT.chk (t := (143, [some (zR 18 0), some (zJ x1), none, some (zI x3), some (zI x4), some (zI 2)], [], (z_w (z_w (z_w M 18 0 26 1) 18 0 28 (-1)) 18 0 25 0), false)) rfl (by first | decide | (dsimp only; decide)) ?_
      refine zT.it 8 (t := (156, [some (zR 18 0), some (zJ x1), none, some (zI x3), some (zI x4), some (zI 0)], [], (z_w (z_w (z_w (z_w (z_w M 18 0 26 1) 18 0 28 (-1)) 18 0 25 0) 18 0 2 0) 18 0 15 0), false)) rfl ?_
      exact h
  · replace h := h.2.2 c
    refine zT.it 1 (t := (62, [some (zR 18 0), some (zJ x1), none, some (zI x3), some (zI x4), some (zI 2)], [zI 2], M, cl)) rfl ?_
    refine zT.br (g := zr 2) (p := 2 ≤ 0) (t := (94, [some (zR 18 0), some (zJ x1), none, some (zI x3), some (zI x4), some (zI 2)], [], M, cl)) (u := (65, [some (zR 18 0), some (zJ x1), none, some (zI x3), some (zI x4), some (zI 2)], [], M, cl)) rfl (by decide) (fun c => absurd c (by decide)) (fun c => ?_)
    refine zT.it 2 (t := (68, [some (zR 18 0), some (zJ x1), none, some (zI x3), some (zI x4), some (zI 2)], [zI 4, zI 2], M, cl)) rfl ?_
    refine zT.br (g := zr 2 ∧ zr 4) (p := 4 ≤ 2) (t := (94, [some (zR 18 0), some (zJ x1), none, some (zI x3), some (zI x4), some (zI 2)], [], M, cl)) (u := (71, [some (zR 18 0), some (zJ x1), none, some (zI x3), some (zI x4), some (zI 2)], [], M, cl)) rfl (by decide) (fun c => absurd c (by decide)) (fun c => ?_)
    refine zT.it 12 (t := (89, [some (zR 18 0), some (zJ x1), none, some (zI x3), some (zI x4), some (zI 2)], [zI 1, zR 23 0, zI ((x3 + 2) - 1), zR 30 0], M, cl)) rfl ?_
    refine zT.chk (t := (90, [some (zR 18 0), some (zJ x1), none, some (zI x3), some (zI x4), some (zI 2)], [zI (M.1 23 0 1), zI ((x3 + 2) - 1), zR 30 0], M, cl)) rfl (by first | decide | (dsimp only; decide)) ?_
    refine zT.chk (p := z_wi ((x3 + 2) - 1) 8) (t := (91, [some (zR 18 0), some (zJ x1), none, some (zI x3), some (zI x4), some (zI 2)], [], (z_w M 30 0 (((x3 + 2) - 1).toNat) (M.1 23 0 1)), false)) rfl h.1 ?_
    replace h := h.2
    refine zT.it 3 (t := (53, [some (zR 18 0), some (zJ x1), none, some (zI x3), some (zI x4), some (zI 3)], [], (z_w M 30 0 (((x3 + 2) - 1).toNat) (M.1 23 0 1)), false)) rfl ?_
    exact h
theorem g96_53a3 {x1 : Int} {x3 : Int} {x4 : Int} {M : zM} {cl : Bool} {Q : zQ} (h : (zr 3 ∧ zr x4) ∧ ((x4 ≤ 3 → (zr (M.1 18 0 28)) ∧ (((M.1 18 0 28) < 0 → (zr (M.1 18 0 25)) ∧ ((¬ (M.1 18 0 25) = 0 → Q (.inl none) M cl 0) ∧ ((M.1 18 0 25) = 0 → (zr (M.1 18 0 15)) ∧ (((M.1 18 0 15) ≤ 0 → Q (.inl none) M cl 0) ∧ (¬ ((M.1 18 0 15) ≤ 0) → zF 93 [zR 18 0, zJ x1] M (fun v M5 => v = none ∧ ∀ cl5 : Bool, Q (.inl none) M5 cl5 0)))))) ∧ (¬ ((M.1 18 0 28) < 0) → zT 96 (156, [some (zR 18 0), some (zJ x1), none, some (zI x3), some (zI x4), some (zI 0)], [], (z_w (z_w (z_w (z_w (z_w M 18 0 26 1) 18 0 28 (-1)) 18 0 25 0) 18 0 2 0) 18 0 15 0), false) Q))) ∧ (¬ (x4 ≤ 3) → (z_wi ((x3 + 3) - 1) 8) ∧ (zT 96 (53, [some (zR 18 0), some (zJ x1), none, some (zI x3), some (zI x4), some (zI 4)], [], (z_w M 30 0 (((x3 + 3) - 1).toNat) (M.1 23 0 2)), false) Q)))) : zT 96 (53, [some (zR 18 0), some (zJ x1), none, some (zI x3), some (zI x4), some (zI 3)], [], M, cl) Q := by
  refine zT.it 2 (t := (57, [some (zR 18 0), some (zJ x1), none, some (zI x3), some (zI x4), some (zI 3)], [zI x4, zI 3], M, cl)) rfl ?_
  refine zT.br (g := zr 3 ∧ zr x4) (p := x4 ≤ 3) (t := (121, [some (zR 18 0), some (zJ x1), none, some (zI x3), some (zI x4), some (zI 3)], [], M, cl)) (u := (60, [some (zR 18 0), some (zJ x1), none, some (zI x3), some (zI x4), some (zI 3)], [], M, cl)) rfl h.1 (fun c => ?_) (fun c => ?_)
  · replace h := h.2.1 c
    refine zT.it 2 (t := (125, [some (zR 18 0), some (zJ x1), none, some (zI x3), some (zI x4), some (zI 3)], [zI (M.1 18 0 28)], M, cl)) rfl ?_
    refine zT.br (g := zr (M.1 18 0 28)) (p := (M.1 18 0 28) < 0) (t := (185, [some (zR 18 0), some (zJ x1), none, some (zI x3), some (zI x4), some (zI 3)], [], M, cl)) (u := (128, [some (zR 18 0), some (zJ x1), none, some (zI x3), some (zI x4), some (zI 3)], [], M, cl)) rfl h.1 (fun c => ?_) (fun c => ?_)
    · replace h := h.2.1 c
      refine zT.it 2 (t := (189, [some (zR 18 0), some (zJ x1), none, some (zI x3), some (zI x4), some (zI 3)], [zI (M.1 18 0 25)], M, cl)) rfl ?_
      refine zT.br (g := zr (M.1 18 0 25)) (p := ¬ (M.1 18 0 25) = 0) (t := (204, [some (zR 18 0), some (zJ x1), none, some (zI x3), some (zI x4), some (zI 3)], [], M, cl)) (u := (192, [some (zR 18 0), some (zJ x1), none, some (zI x3), some (zI x4), some (zI 3)], [], M, cl)) rfl h.1 (fun c => ?_) (fun c => ?_)
      · replace h := h.2.1 c
        exact zT.ret (v := none) rfl trivial h
      · replace h := h.2.2 (Decidable.not_not.1 c)
        refine zT.it 2 (t := (196, [some (zR 18 0), some (zJ x1), none, some (zI x3), some (zI x4), some (zI 3)], [zI (M.1 18 0 15)], M, cl)) rfl ?_
        refine zT.br (g := zr (M.1 18 0 15)) (p := (M.1 18 0 15) ≤ 0) (t := (204, [some (zR 18 0), some (zJ x1), none, some (zI x3), some (zI x4), some (zI 3)], [], M, cl)) (u := (199, [some (zR 18 0), some (zJ x1), none, some (zI x3), some (zI x4), some (zI 3)], [], M, cl)) rfl h.1 (fun c => ?_) (fun c => ?_)
        · replace h := h.2.1 c
          exact zT.ret (v := none) rfl trivial h
        · replace h := h.2.2 c
          refine zT.it 2 (t := (201, [some (zR 18 0), some (zJ x1), none, some (zI x3), some (zI x4), some (zI 3)], [zJ x1, zR 18 0], M, cl)) rfl ?_
          refine zT.call (m := 93) (as := [zR 18 0, zJ x1]) (M := M) (L := [some (zR 18 0), some (zJ x1), none, some (zI x3), some (zI x4), some (zI 3)]) (st := []) (pn := 204) (cl := cl) rfl ?_
          refine zF.mono h (fun v M5 h cl5 => ?_)
          obtain ⟨e5, h⟩ := h; subst e5; replace h := h cl5
          show zT 96 (204, [some (zR 18 0), some (zJ x1), none, some (zI x3), some (zI x4), some (zI 3)], [], M5, cl5) _
          exact zT.ret (v := none) rfl trivial h
    · replace h := h.2.2 c
      refine zT.it 2 (t := (130, [some (zR 18 0), some (zJ x1), none, some (zI x3), some (zI x4), some (zI 3)], [zI 1, zR 18 0], M, cl)) rfl ?_
      refine zT.chk (t := (133, [some (zR 18 0), some (zJ x1), none, some (zI x3), some (zI x4), some (zI 3)], [], (z_w M 18 0 26 1), false)) rfl (by first | decide | (dsimp only; decide)) ?_
      refine zT.it 5 (t := (140, [some (zR 18 0), some (zJ x1), none, some (zI x3), some (zI x4), some (zI 3)], [zI 0, zR 18 0], (z_w (z_w M 18 0 26 1) 18 0 28 (-1)), false)) rfl ?_
      refine zT.chk (t := (143, [some (zR 18 0), some (zJ x1), none, some (zI x3), some (zI x4), some (zI 3)], [], (z_w (z_w (z_w M 18 0 26 1) 18 0 28 (-1)) 18 0 25 0), false)) rfl (by first | decide | (dsimp only; decide)) ?_
      refine zT.it 8 (t := (156, [some (zR 18 0), some (zJ x1), none, some (zI x3), some (zI x4), some (zI 0)], [], (z_w (z_w (z_w (z_w (z_w M 18 0 26 1) 18 0 28 (-1)) 18 0 25 0) 18 0 2 0) 18 0 15 0), false)) rfl ?_
      exact h
  · replace h := h.2.2 c
    refine zT.it 1 (t := (62, [some (zR 18 0), some (zJ x1), none, some (zI x3), some (zI x4), some (zI 3)], [zI 3], M, cl)) rfl ?_
    refine zT.br (g := zr 3) (p := 3 ≤ 0) (t := (94, [some (zR 18 0), some (zJ x1), none, some (zI x3), some (zI x4), some (zI 3)], [], M, cl)) (u := (65, [some (zR 18 0), some (zJ x1), none, some (zI x3), some (zI x4), some (zI 3)], [], M, cl)) rfl (by decide) (fun c => absurd c (by decide)) (fun c => ?_)
    refine zT.it 2 (t := (68, [some (zR 18 0), some (zJ x1), none, some (zI x3), some (zI x4), some (zI 3)], [zI 4, zI 3], M, cl)) rfl ?_
    refine zT.br (g := zr 3 ∧ zr 4) (p := 4 ≤ 3) (t := (94, [some (zR 18 0), some (zJ x1), none, some (zI x3), some (zI x4), some (zI 3)], [], M, cl)) (u := (71, [some (zR 18 0), some (zJ x1), none, some (zI x3), some (zI x4), some (zI 3)], [], M, cl)) rfl (by decide) (fun c => absurd c (by decide)) (fun c => ?_)
    refine zT.it 12 (t := (89, [some (zR 18 0), some (zJ x1), none, some (zI x3), some (zI x4), some (zI 3)], [zI 2, zR 23 0, zI ((x3 + 3) - 1), zR 30 0], M, cl)) rfl ?_
    refine zT.chk (t := (90, [some (zR 18 0), some (zJ x1), none, some (zI x3), some (zI x4), some (zI 3)], [zI (M.1 23 0 2), zI ((x3 + 3) - 1), zR 30 0], M, cl)) rfl (by first | decide | (dsimp only; decide)) ?_
    refine zT.chk (p := z_wi ((x3 + 3) - 1) 8) (t := (91, [some (zR 18 0), some (zJ x1), none, some (zI x3), some (zI x4), some (zI 3)], [], (z_w M 30 0 (((x3 + 3) - 1).toNat) (M.1 23 0 2)), false)) rfl h.1 ?_
    replace h := h.2
    refine zT.it 3 (t := (53, [some (zR 18 0), some (zJ x1), none, some (zI x3), some (zI x4), some (zI 4)], [], (z_w M 30 0 (((x3 + 3) - 1).toNat) (M.1 23 0 2)), false)) rfl ?_
    exact h
theorem g96_53a4 {x1 : Int} {x3 : Int} {x4 : Int} {M : zM} {cl : Bool} {Q : zQ} (h : (zr 4 ∧ zr x4) ∧ ((x4 ≤ 4 → (zr (M.1 18 0 28)) ∧ (((M.1 18 0 28) < 0 → (zr (M.1 18 0 25)) ∧ ((¬ (M.1 18 0 25) = 0 → Q (.inl none) M cl 0) ∧ ((M.1 18 0 25) = 0 → (zr (M.1 18 0 15)) ∧ (((M.1 18 0 15) ≤ 0 → Q (.inl none) M cl 0) ∧ (¬ ((M.1 18 0 15) ≤ 0) → zF 93 [zR 18 0, zJ x1] M (fun v M6 => v = none ∧ ∀ cl6 : Bool, Q (.inl none) M6 cl6 0)))))) ∧ (¬ ((M.1 18 0 28) < 0) → zT 96 (156, [some (zR 18 0), some (zJ x1), none, some (zI x3), some (zI x4), some (zI 0)], [], (z_w (z_w (z_w (z_w (z_w M 18 0 26 1) 18 0 28 (-1)) 18 0 25 0) 18 0 2 0) 18 0 15 0), false) Q))) ∧ (¬ (x4 ≤ 4) → (z_wi (x3 + 3) 8) ∧ (zT 96 (53, [some (zR 18 0), some (zJ x1), none, some (zI x3), some (zI x4), some (zI 5)], [], (z_w M 30 0 ((x3 + 3).toNat) (M.1 18 0 29)), false) Q)))) : zT 96 (53, [some (zR 18 0), some (zJ x1), none, some (zI x3), some (zI x4), some (zI 4)], [], M, cl) Q := by
  refine zT.it 2 (t := (57, [some (zR 18 0), some (zJ x1), none, some (zI x3), some (zI x4), some (zI 4)], [zI x4, zI 4], M, cl)) rfl ?_
  refine zT.br (g := zr 4 ∧ zr x4) (p := x4 ≤ 4) (t := (121, [some (zR 18 0), some (zJ x1), none, some (zI x3), some (zI x4), some (zI 4)], [], M, cl)) (u := (60, [some (zR 18 0), some (zJ x1), none, some (zI x3), some (zI x4), some (zI 4)], [], M, cl)) rfl h.1 (fun c => ?_) (fun c => ?_)
  · replace h := h.2.1 c
    refine zT.it 2 (t := (125, [some (zR 18 0), some (zJ x1), none, some (zI x3), some (zI x4), some (zI 4)], [zI (M.1 18 0 28)], M, cl)) rfl ?_
    refine zT.br (g := zr (M.1 18 0 28)) (p := (M.1 18 0 28) < 0) (t := (185, [some (zR 18 0), some (zJ x1), none, some (zI x3), some (zI x4), some (zI 4)], [], M, cl)) (u := (128, [some (zR 18 0), some (zJ x1), none, some (zI x3), some (zI x4), some (zI 4)], [], M, cl)) rfl h.1 (fun c => ?_) (fun c => ?_)
    · replace h := h.2.1 c
      refine zT.it 2 (t := (189, [some (zR 18 0), some (zJ x1), none, some (zI x3), some (zI x4), some (zI 4)], [zI (M.1 18 0 25)], M, cl)) rfl ?_
      refine zT.br (g := zr (M.1 18 0 25)) (p := ¬ (M.1 18 0 25) = 0) (t := (204, [some (zR 18 0), some (zJ x1), none, some (zI x3), some (zI x4), some (zI 4)], [], M, cl)) (u := (192, [some (zR 18 0), some (zJ x1), none, some (zI x3), some (zI x4), some (zI 4)], [], M, cl)) rfl h.1 (fun c => ?_) (fun c => ?_)
      · replace h := h.2.1 c
        exact zT.ret (v := none) rfl trivial h
      · replace h := h.2.2 (Decidable.not_not.1 c)
        refine zT.it 2 (t := (196, [some (zR 18 0), some (zJ x1), none, some (zI x3), some (zI x4), some (zI 4)], [zI (M.1 18 0 15)], M, cl)) rfl ?_
        refine zT.br (g := zr (M.1 18 0 15)) (p := (M.1 18 0 15) ≤ 0) (t := (204, [some (zR 18 0), some (zJ x1), none, some (zI x3), some (zI x4), some (zI 4)], [], M, cl)) (u := (199, [some (zR 18 0), some (zJ x1), none, some (zI x3), some (zI x4), some (zI 4)], [], M, cl)) rfl h.1 (fun c => ?_) (fun c => ?_)
        · replace h := h.2.1 c
          exact zT.ret (v := none) rfl trivial h
        · replace h := h.2.2 c
          refine zT.it 2 (t := (201, [some (zR 18 0), some (zJ x1), none, some (zI x3), some (zI x4), some (zI 4)], [zJ x1, zR 18 0], M, cl)) rfl ?_
          refine zT.call (m := 93) (as := [zR 18 0, zJ x1]) (M := M) (L := [some (zR 18 0), some (zJ x1), none, some (zI x3), some (zI x4), some (zI 4)]) (st := []) (pn := 204) (cl := cl) rfl ?_
          refine zF.mono h (fun v M6 h cl6 => ?_)
          obtain ⟨e6, h⟩ := h; subst e6; replace h := h cl6
          show zT 96 (204, [some (zR 18 0), some (zJ x1), none, some (zI x3), some (zI x4), some (zI 4)], [], M6, cl6) _
          exact zT.ret (v := none) rfl trivial h
    · replace h := h.2.2 c
      refine zT.it 2 (t := (130, [some (zR 18 0), some (zJ x1), none, some (zI x3), some (zI x4), some (zI 4)], [zI 1, zR 18 0], M, cl)) rfl ?_
      refine zT.chk (t := (133, [some (zR 18 0), some (zJ x1), none, some (zI x3), some (zI x4), some (zI 4)], [], (z_w M 18 0 26 1), false)) rfl (by first | decide | (dsimp only; decide)) ?_
      refine zT.it 5 (t := (140, [some (zR 18 0), some (zJ x1), none, some (zI x3), some (zI x4), some (zI 4)], [zI 0, zR 18 0], (z_w (z_w M 18 0 26 1) 18 0 28 (-1)), false)) rfl ?_
      refine zT.chk (t := (143, [some (zR 18 0), some (zJ x1), none, some (zI x3), some (zI x4), some (zI 4)], [], (z_w (z_w (z_w M 18 0 26 1) 18 0 28 (-1)) 18 0 25 0), false)) rfl (by first | decide | (dsimp only; decide)) ?_
      refine zT.it 8 (t := (156, [some (zR 18 0), some (zJ x1), none, some (zI x3), some (zI x4), some (zI 0)], [], (z_w (z_w (z_w (z_w (z_w M 18 0 26 1) 18 0 28 (-1)) 18 0 25 0) 18 0 2 0) 18 0 15 0), false)) rfl ?_
      exact h
  · replace h := h.2.2 c
    refine zT.it 1 (t := (62, [some (zR 18 0), some (zJ x1), none, some (zI x3), some (zI x4), some (zI 4)], [zI 4], M, cl)) rfl ?_
    refine zT.br (g := zr 4) (p := 4 ≤ 0) (t := (94, [some (zR 18 0), some (zJ x1), none, some (zI x3), some (zI x4), some (zI 4)], [], M, cl)) (u := (65, [some (zR 18 0), some (zJ x1), none, some (zI x3), some (zI x4), some (zI 4)], [], M, cl)) rfl (by decide) (fun c => absurd c (by decide)) (fun c => ?_)
    refine zT.it 2 (t := (68, [some (zR 18 0), some (zJ x1), none, some (zI x3), some (zI x4), some (zI 4)], [zI 4, zI 4], M, cl)) rfl ?_
    refine zT.br (g := zr 4 ∧ zr 4) (p := 4 ≤ 4) (t := (94, [some (zR 18 0), some (zJ x1), none, some (zI x3), some (zI x4), some (zI 4)], [], M, cl)) (u := (71, [some (zR 18 0), some (zJ x1), none, some (zI x3), some (zI x4), some (zI 4)], [], M, cl)) rfl (by decide) (fun c => ?_) (fun c => absurd (by decide) c)
    refine zT.it 6 (t := (103, [some (zR 18 0), some (zJ x1), none, some (zI x3), some (zI x4), some (zI 4)], [zI 4, zI (x3 + 3), zR 30 0], M, cl)) rfl ?_
    refine zT.br (g := zr 4) (p := ¬ 4 = 0) (t := (110, [some (zR 18 0), some (zJ x1), none, some (zI x3), some (zI x4), some (zI 4)], [zI (x3 + 3), zR 30 0], M, cl)) (u := (106, [some (zR 18 0), some (zJ x1), none, some (zI x3), some (zI x4), some (zI 4)], [zI (x3 + 3), zR 30 0], M, cl)) rfl (by decide) (fun c => ?_) (fun c => absurd (by decide) c)
    refine zT.it 2 (t := (114, [some (zR 18 0), some (zJ x1), none, some (zI x3), some (zI x4), some (zI 4)], [zI (M.1 18 0 29), zI (x3 + 3), zR 30 0], M, cl)) rfl ?_
    refine zT.chk (p := z_wi (x3 + 3) 8) (t := (115, [some (zR 18 0), some (zJ x1), none, some (zI x3), some (zI x4), some (zI 4)], [], (z_w M 30 0 ((x3 + 3).toNat) (M.1 18 0 29)), false)) rfl h.1 ?_
    replace h := h.2
    refine zT.it 2 (t := (53, [some (zR 18 0), some (zJ x1), none, some (zI x3), some (zI x4), some (zI 5)], [], (z_w M 30 0 ((x3 + 3).toNat) (M.1 18 0 29)), false)) rfl ?_
    exact h
theorem g96_53a5 {x1 : Int} {x3 : Int} {x4 : Int} {M : zM} {cl : Bool} {Q : zQ} (h : (zr 5 ∧ zr x4) ∧ ((x4 ≤ 5 → (zr (M.1 18 0 28)) ∧ (((M.1 18 0 28) < 0 → (zr (M.1 18 0 25)) ∧ ((¬ (M.1 18 0 25) = 0 → Q (.inl none) M cl 0) ∧ ((M.1 18 0 25) = 0 → (zr (M.1 18 0 15)) ∧ (((M.1 18 0 15) ≤ 0 → Q (.inl none) M cl 0) ∧ (¬ ((M.1 18 0 15) ≤ 0) → zF 93 [zR 18 0, zJ x1] M (fun v M7 => v = none ∧ ∀ cl7 : Bool, Q (.inl none) M7 cl7 0)))))) ∧ (¬ ((M.1 18 0 28) < 0) → zT 96 (156, [some (zR 18 0), some (zJ x1), none, some (zI x3), some (zI x4), some (zI 0)], [], (z_w (z_w (z_w (z_w (z_w M 18 0 26 1) 18 0 28 (-1)) 18 0 25 0) 18 0 2 0) 18 0 15 0), false) Q))) ∧ (¬ (x4 ≤ 5) → (z_wi (x3 + 3) 8) ∧ (zT 96 (53, [some (zR 18 0), some (zJ x1), none, some (zI x3), some (zI x4), some (zI 6)], [], (z_w M 30 0 ((x3 + 3).toNat) (M.1 18 0 29)), false) Q)))) : zT 96 (53, [some (zR 18 0), some (zJ x1), none, some (zI x3), some (zI x4), some (zI 5)], [], M, cl) Q := by
  refine zT.it 2 (t := (57, [some (zR 18 0), some (zJ x1), none, some (zI x3), some (zI x4), some (zI 5)], [zI x4, zI 5], M, cl)) rfl ?_
  refine zT.br (g := zr 5 ∧ zr x4) (p := x4 ≤ 5) (t := (121, [some (zR 18 0), some (zJ x1), none, some (zI x3), some (zI x4), some (zI 5)], [], M, cl)) (u := (60, [some (zR 18 0), some (zJ x1), none, some (zI x3), some (zI x4), some (zI 5)], [], M, cl)) rfl h.1 (fun c => ?_) (fun c => ?_)
  · replace h := h.2.1 c
    refine zT.it 2 (t := (125, [some (zR 18 0), some (zJ x1), none, some (zI x3), some (zI x4), some (zI 5)], [zI (M.1 18 0 28)], M, cl)) rfl ?_
    refine zT.br (g := zr (M.1 18 0 28)) (p := (M.1 18 0 28) < 0) (t := (185, [some (zR 18 0), some (zJ x1), none, some (zI x3), some (zI x4), some (zI 5)], [], M, cl)) (u := (128, [some (zR 18 0), some (zJ x1), none, some (zI x3), some (zI x4), some (zI 5)], [], M, cl)) rfl h.1 (fun c => ?_) (fun c => ?_)
    · replace h := h.2.1 c
      refine zT.it 2 (t := (189, [some (zR 18 0), some (zJ x1), none, some (zI x3), some (zI x4), some (zI 5)], [zI (M.1 18 0 25)], M, cl)) rfl ?_
      refine zT.br (g := zr (M.1 18 0 25)) (p := ¬ (M.1 18 0 25) = 0) (t := (204, [some (zR 18 0), some (zJ x1), none, some (zI x3), some (zI x4), some (zI 5)], [], M, cl)) (u := (192, [some (zR 18 0), some (zJ x1), none, some (zI x3), some (zI x4), some (zI 5)], [], M, cl)) rfl h.1 (fun c => ?_) (fun c => ?_)
      · replace h := h.2.1 c
        exact zT.ret (v := none) rfl trivial h
      · replace h := h.2.2 (Decidable.not_not.1 c)
        refine zT.it 2 (t := (196, [some (zR 18 0), some (zJ x1), none, some (zI x3), some (zI x4), some (zI 5)], [zI (M.1 18 0 15)], M, cl)) rfl ?_
        refine zT.br (g := zr (M.1 18 0 15)) (p := (M.1 18 0 15) ≤ 0) (t := (204, [some (zR 18 0), some (zJ x1), none, some (zI x3), some (zI x4), some (zI 5)], [], M, cl)) (u := (199, [some (zR 18 0), some (zJ x1), none, some (zI x3), some (zI x4), some (zI 5)], [], M, cl)) rfl h.1 (fun c => ?_) (fun c => ?_)
        · replace h := h.2.1 c
          exact zT.ret (v := none) rfl trivial h
        · replace h := h.2.2 c
          refine zT.it 2 (t := (201, [some (zR 18 0), some (zJ x1), none, some (zI x3), some (zI x4), some (zI 5)], [zJ x1, zR 18 0], M, cl)) rfl ?_
          refine zT.call (m := 93) (as := [zR 18 0, zJ x1]) (M := M) (L := [some (zR 18 0), some (zJ x1), none, some (zI x3), some (zI x4), some (zI 5)]) (st := []) (pn := 204) (cl := cl) rfl ?_
          refine zF.mono h (fun v M7 h cl7 => ?_)
          obtain ⟨e7, h⟩ := h; subst e7; replace h := h cl7
          show zT 96 (204, [some (zR 18 0), some (zJ x1), none, some (zI x3), some (zI x4), some (zI 5)], [], M7, cl7) _
          exact zT.ret (v := none) rfl trivial h
    · replace h := h.2.2 c
      refine zT.it 2 (t := (130, [some (zR 18 0), some (zJ x1), none, some (zI x3), some (zI x4), some (zI 5)], [zI 1, zR 18 0], M, cl)) rfl ?_
      refine zT.chk (t := (133, [some (zR 18 0), some (zJ x1), none, some (zI x3), some (zI x4), some (zI 5)], [], (z_w M 18 0 26 1), false)) rfl (by first | decide | (dsimp only; decide)) ?_
      refine zT.it 5 (t := (140, [some (zR 18 0), some (zJ x1), none, some (zI x3), some (zI x4), some (zI 5)], [zI 0, zR 18 0], (z_w (z_w M 18 0 26 1) 18 0 28 (-1)), false)) rfl ?_
      refine zT.chk (t := (143, [some (zR 18 0), some (zJ x1), none, some (zI x3), some (zI x4), some (zI 5)], [], (z_w (z_w (z_w M 18 0 26 1) 18 0 28 (-1)) 18 0 25 0), false)) rfl (by first | decide | (dsimp only; decide)) ?_
      refine zT.it 8 (t := (156, [some (zR 18 0), some (zJ x1), none, some (zI x3), some (zI x4), some (zI 0)], [], (z_w (z_w (z_w (z_w (z_w M 18 0 26 1) 18 0 28 (-1)) 18 0 25 0) 18 0 2 0) 18 0 15 0), false)) rfl ?_
      exact h
  · replace h := h.2.2 c
    refine zT.it 1 (t := (62, [some (zR 18 0), some (zJ x1), none, some (zI x3), some (zI x4), some (zI 5)], [zI 5], M, cl)) rfl ?_
    refine zT.br (g := zr 5) (p := 5 ≤ 0) (t := (94, [some (zR 18 0), some (zJ x1), none, some (zI x3), some (zI x4), some (zI 5)], [], M, cl)) (u := (65, [some (zR 18 0), some (zJ x1), none, some (zI x3), some (zI x4), some (zI 5)], [], M, cl)) rfl (by decide) (fun c => absurd c (by decide)) (fun c => ?_)
    refine zT.it 2 (t := (68, [some (zR 18 0), some (zJ x1), none, some (zI x3), some (zI x4), some (zI 5)], [zI 4, zI 5], M, cl)) rfl ?_
    refine zT.br (g := zr 5 ∧ zr 4) (p := 4 ≤ 5) (t := (94, [some (zR 18 0), some (zJ x1), none, some (zI x3), some (zI x4), some (zI 5)], [], M, cl)) (u := (71, [some (zR 18 0), some (zJ x1), none, some (zI x3), some (zI x4), some (zI 5)], [], M, cl)) rfl (by decide) (fun c => ?_) (fun c => absurd (by decide) c)
    refine zT.it 6 (t := (103, [some (zR 18 0), some (zJ x1), none, some (zI x3), some (zI x4), some (zI 5)], [zI 5, zI (x3 + 3), zR 30 0], M, cl)) rfl ?_
    refine zT.br (g := zr 5) (p := ¬ 5 = 0) (t := (110, [some (zR 18 0), some (zJ x1), none, some (zI x3), some (zI x4), some (zI 5)], [zI (x3 + 3), zR 30 0], M, cl)) (u := (106, [some (zR 18 0), some (zJ x1), none, some (zI x3), some (zI x4), some (zI 5)], [zI (x3 + 3), zR 30 0], M, cl)) rfl (by decide) (fun c => ?_) (fun c => absurd (by decide) c)
    refine zT.it 2 (t := (114, [some (zR 18 0), some (zJ x1), none, some (zI x3), some (zI x4), some (zI 5)], [zI (M.1 18 0 29), zI (x3 + 3), zR 30 0], M, cl)) rfl ?_
    refine zT.chk (p := z_wi (x3 + 3) 8) (t := (115, [some (zR 18 0), some (zJ x1), none, some (zI x3), some (zI x4), some (zI 5)], [], (z_w M 30 0 ((x3 + 3).toNat) (M.1 18 0 29)), false)) rfl h.1 ?_
    replace h := h.2
    refine zT.it 2 (t := (53, [some (zR 18 0), some (zJ x1), none, some (zI x3), some (zI x4), some (zI 6)], [], (z_w M 30 0 ((x3 + 3).toNat) (M.1 18 0 29)), false)) rfl ?_
    exact h
theorem g96_156a0 {x1 : Int} {x3 : Int} {x4 : Int} {M : zM} {cl : Bool} {Q : zQ} (h : zT 96 (156, [some (zR 18 0), some (zJ x1), none, some (zI x3), some (zI x4), some (zI 1)], [], (z_w M 24 0 0 (M.1 23 0 0)), false) Q) : zT 96 (156, [some (zR 18 0), some (zJ x1), none, some (zI x3), some (zI x4), some (zI 0)], [], M, cl) Q := by
  refine zT.it 2 (t := (159, [some (zR 18 0), some (zJ x1), none, some (zI x3), some (zI x4), some (zI 0)], [zI 3, zI 0], M, cl)) rfl ?_
  refine zT.br (g := zr 0 ∧ zr 3) (p := 3 ≤ 0) (t := (182, [some (zR 18 0), some (zJ x1), none, some (zI x3), some (zI x4), some (zI 0)], [], M, cl)) (u := (162, [some (zR 18 0), some (zJ x1), none, some (zI x3), some (zI x4), some (zI 0)], [], M, cl)) rfl (by decide) (fun c => absurd c (by decide)) (fun c => ?_)
  refine zT.it 6 (t := (174, [some (zR 18 0), some (zJ x1), none, some (zI x3), some (zI x4), some (zI 0)], [zI 0, zR 23 0, zI 0, zR 24 0], M, cl)) rfl ?_
  refine zT.chk (t := (175, [some (zR 18 0), some (zJ x1), none, some (zI x3), some (zI x4), some (zI 0)], [zI (M.1 23 0 0), zI 0, zR 24 0], M, cl)) rfl (by first | decide | (dsimp only; decide)) ?_
  refine zT.chk (t := (176, [some (zR 18 0), some (zJ x1), none, some (zI x3), some (zI x4), some (zI 0)], [], (z_w M 24 0 0 (M.1 23 0 0)), false)) rfl (by first | decide | (dsimp only; decide)) ?_
  refine zT.it 2 (t := (156, [some (zR 18 0), some (zJ x1), none, some (zI x3), some (zI x4), some (zI 1)], [], (z_w M 24 0 0 (M.1 23 0 0)), false)) rfl ?_
  exact h
theorem g96_156a1 {x1 : Int} {x3 : Int} {x4 : Int} {M : zM} {cl : Bool} {Q : zQ} (h : zT 96 (156, [some (zR 18 0), some (zJ x1), none, some (zI x3), some (zI x4), some (zI 2)], [], (z_w M 24 0 1 (M.1 23 0 1)), false) Q) : zT 96 (156, [some (zR 18 0), some (zJ x1), none, some (zI x3), some (zI x4), some (zI 1)], [], M, cl) Q := by
  refine zT.it 2 (t := (159, [some (zR 18 0), some (zJ x1), none, some (zI x3), some (zI x4), some (zI 1)], [zI 3, zI 1], M, cl)) rfl ?_
  refine zT.br (g := zr 1 ∧ zr 3) (p := 3 ≤ 1) (t := (182, [some (zR 18 0), some (zJ x1), none, some (zI x3), some (zI x4), some (zI 1)], [], M, cl)) (u := (162, [some (zR 18 0), some (zJ x1), none, some (zI x3), some (zI x4), some (zI 1)], [], M, cl)) rfl (by decide) (fun c => absurd c (by decide)) (fun c => ?_)
  refine zT.it 6 (t := (174, [some (zR 18 0), some (zJ x1), none, some (zI x3), some (zI x4), some (zI 1)], [zI 1, zR 23 0, zI 1, zR 24 0], M, cl)) rfl ?_
  refine zT.chk (t := (175, [some (zR 18 0), some (zJ x1), none, some (zI x3), some (zI x4), some (zI 1)], [zI (M.1 23 0 1), zI 1, zR 24 0], M, cl)) rfl (by first | decide | (dsimp only; decide)) ?_
  refine zT.chk (t := (176, [some (zR 18 0), some (zJ x1), none, some (zI x3), some (zI x4), some (zI 1)], [], (z_w M 24 0 1 (M.1 23 0 1)), false)) rfl (by first | decide | (dsimp only; decide)) ?_
  refine zT.it 2 (t := (156, [some (zR 18 0), some (zJ x1), none, some (zI x3), some (zI x4), some (zI 2)], [], (z_w M 24 0 1 (M.1 23 0 1)), false)) rfl ?_
  exact h
theorem g96_156a2 {x1 : Int} {x3 : Int} {x4 : Int} {M : zM} {cl : Bool} {Q : zQ} (h : zT 96 (156, [some (zR 18 0), some (zJ x1), none, some (zI x3), some (zI x4), some (zI 3)], [], (z_w M 24 0 2 (M.1 23 0 2)), false) Q) : zT 96 (156, [some (zR 18 0), some (zJ x1), none, some (zI x3), some (zI x4), some (zI 2)], [], M, cl) Q := by
  refine zT.it 2 (t := (159, [some (zR 18 0), some (zJ x1), none, some (zI x3), some (zI x4), some (zI 2)], [zI 3, zI 2], M, cl)) rfl ?_
  refine zT.br (g := zr 2 ∧ zr 3) (p := 3 ≤ 2) (t := (182, [some (zR 18 0), some (zJ x1), none, some (zI x3), some (zI x4), some (zI 2)], [], M, cl)) (u := (162, [some (zR 18 0), some (zJ x1), none, some (zI x3), some (zI x4), some (zI 2)], [], M, cl)) rfl (by decide) (fun c => absurd c (by decide)) (fun c => ?_)
  refine zT.it 6 (t := (174, [some (zR 18 0), some (zJ x1), none, some (zI x3), some (zI x4), some (zI 2)], [zI 2, zR 23 0, zI 2, zR 24 0], M, cl)) rfl ?_
  refine zT.chk (t := (175, [some (zR 18 0), some (zJ x1), none, some (zI x3), some (zI x4), some (zI 2)], [zI (M.1 23 0 2), zI 2, zR 24 0], M, cl)) rfl (by first | decide | (dsimp only; decide)) ?_
  refine zT.chk (t := (176, [some (zR 18 0), some (zJ x1), none, some (zI x3), some (zI x4), some (zI 2)], [], (z_w M 24 0 2 (M.1 23 0 2)), false)) rfl (by first | decide | (dsimp only; decide)) ?_
  refine zT.it 2 (t := (156, [some (zR 18 0), some (zJ x1), none, some (zI x3), some (zI x4), some (zI 3)], [], (z_w M 24 0 2 (M.1 23 0 2)), false)) rfl ?_
  exact h
theorem g96_156a3 {x1 : Int} {x3 : Int} {x4 : Int} {M : zM} {cl : Bool} {Q : zQ} (h : Q (.inl none) M cl 0) : zT 96 (156, [some (zR 18 0), some (zJ x1), none, some (zI x3), some (zI x4), some (zI 3)], [], M, cl) Q := by
  refine zT.it 2 (t := (159, [some (zR 18 0), some (zJ x1), none, some (zI x3), some (zI x4), some (zI 3)], [zI 3, zI 3], M, cl)) rfl ?_
  refine zT.br (g := zr 3 ∧ zr 3) (p := 3 ≤ 3) (t := (182, [some (zR 18 0), some (zJ x1), none, some (zI x3), some (zI x4), some (zI 3)], [], M, cl)) (u := (162, [some (zR 18 0), some (zJ x1), none, some (zI x3), some (zI x4), some (zI 3)], [], M, cl)) rfl (by decide) (fun c => ?_) (fun c => absurd (by decide) c)
  refine zT.it 1 (t := (204, [some (zR 18 0), some (zJ x1), none, some (zI x3), some (zI x4), some (zI 3)], [], M, cl)) rfl ?_
  exact zT.ret (v := none) rfl trivial h
theorem g97_0 {M : zM} {Q : zQ} (h : (zr (M.1 18 0 19)) ∧ ((¬ (M.1 18 0 19) = 0 → zT 97 (31, [some (zR 18 0), none, none, none], [], (z_w M 18 0 31 0), false) Q) ∧ ((M.1 18 0 19) = 0 → (zr (M.1 18 0 25)) ∧ ((¬ (M.1 18 0 25) = 0 → zT 97 (31, [some (zR 18 0), none, none, none], [], (z_w M 18 0 31 0), false) Q) ∧ ((M.1 18 0 25) = 0 → (zr (M.1 18 0 15)) ∧ (((M.1 18 0 15) ≤ 0 → zT 97 (31, [some (zR 18 0), none, none, none], [], (z_w M 18 0 31 0), false) Q) ∧ (¬ ((M.1 18 0 15) ≤ 0) → zF 93 [zR 18 0, zJ 0] (z_w M 18 0 31 0) (fun v M1 => v = none ∧ ∀ cl1 : Bool, zT 97 (31, [some (zR 18 0), none, none, none], [], M1, cl1) Q)))))))) : zT 97 (0, [some (zR 18 0), none, none, none], [], M, true) Q := by
  refine zT.it 2 (t := (2, [some (zR 18 0), none, none, none], [zI 0, zR 18 0], M, true)) rfl ?_
  refine zT.chk (t := (5, [some (zR 18 0), none, none, none], [], (z_w M 18 0 31 0), false)) rfl (by first | decide | (dsimp only; decide)) ?_
  refine zT.it 2 (t := (9, [some (zR 18 0), none, none, none], [zI (M.1 18 0 19)], (z_w M 18 0 31 0), false)) rfl ?_
  refine zT.br (g := zr (M.1 18 0 19)) (p := ¬ (M.1 18 0 19) = 0) (t := (31, [some (zR 18 0), none, none, none], [], (z_w M 18 0 31 0), false)) (u := (12, [some (zR 18 0), none, none, none], [], (z_w M 18 0 31 0), false)) rfl h.1 (fun c => ?_) (fun c => ?_)
  · replace h := h.2.1 c
    exact h
  · replace h := h.2.2 (Decidable.not_not.1 c)
    refine zT.it 2 (t := (16, [some (zR 18 0), none, none, none], [zI (M.1 18 0 25)], (z_w M 18 0 31 0), false)) rfl ?_
    refine zT.br (g := zr (M.1 18 0 25)) (p := ¬ (M.1 18 0 25) = 0) (t := (31, [some (zR 18 0), none, none, none], [], (z_w M 18 0 31 0), false)) (u := (19, [some (zR 18 0), none, none, none], [], (z_w M 18 0 31 0), false)) rfl h.1 (fun c => ?_) (fun c => ?_)
    · replace h := h.2.1 c
      exact h
    · replace h := h.2.2 (Decidable.not_not.1 c)
      refine zT.it 2 (t := (23, [some (zR 18 0), none, none, none], [zI (M.1 18 0 15)], (z_w M 18 0 31 0), false)) rfl ?_
      refine zT.br (g := zr (M.1 18 0 15)) (p := (M.1 18 0 15) ≤ 0) (t := (31, [some (zR 18 0), none, none, none], [], (z_w M 18 0 31 0), false)) (u := (26, [some (zR 18 0), none, none, none], [], (z_w M 18 0 31 0), false)) rfl h.1 (fun c => ?_) (fun c => ?_)
      · replace h := h.2.1 c
        exact h
      · replace h := h.2.2 c
        refine zT.it 2 (t := (28, [some (zR 18 0), none, none, none], [zJ 0, zR 18 0], (z_w M 18 0 31 0), false)) rfl ?_
        refine zT.call (m := 93) (as := [zR 18 0, zJ 0]) (M := (z_w M 18 0 31 0)) (L := [some (zR 18 0), none, none, none]) (st := []) (pn := 31) (cl := false) rfl ?_
        refine zF.mono h (fun v M1 h cl1 => ?_)
        obtain ⟨e1, h⟩ := h; subst e1; replace h := h cl1
        show zT 97 (31, [some (zR 18 0), none, none, none], [], M1, cl1) _
        exact h
