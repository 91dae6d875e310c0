-- what each piece of the program asks (written by gen/g.py out of the program itself)
theorem g57_76 {x1 : Int} {x2 : Int} {x3 : Int} {x4 : Int} {u5 : Option zV} {u6 : Option zV} {s0 : Int} {M : zM} {cl : Bool} {Q : zQ} (h : (zr (M.1 21 0 1) ∧ zr 90) ∧ (((M.1 21 0 1) = 90 → (zr (M.1 18 0 4) ∧ zr 2) ∧ ((¬ (M.1 18 0 4) = 2 → Q (.inl (some (zI 0))) M cl 0) ∧ ((M.1 18 0 4) = 2 → Q (.inl (some (zI 1))) M cl 0))) ∧ (¬ ((M.1 21 0 1) = 90) → (zr (M.1 21 0 1) ∧ zr 91) ∧ ((¬ (M.1 21 0 1) = 91 → (zr (M.1 21 0 1) ∧ zr 4) ∧ ((¬ (M.1 21 0 1) = 4 → (zr (M.1 21 0 1) ∧ zr 92) ∧ ((¬ (M.1 21 0 1) = 92 → (zr (M.1 21 0 1) ∧ zr 1) ∧ ((¬ (M.1 21 0 1) = 1 → Q (.inl (some (zI 0))) M cl 0) ∧ ((M.1 21 0 1) = 1 → (zr s0) ∧ ((s0 = 0 → Q (.inl (some (zI 0))) M cl 0) ∧ (¬ (s0 = 0) → (zr (M.1 18 0 4) ∧ zr ((((2 + x1) + x2) + x3) + x4)) ∧ ((¬ (M.1 18 0 4) = ((((2 + x1) + x2) + x3) + x4) → Q (.inl (some (zI 0))) M cl 0) ∧ ((M.1 18 0 4) = ((((2 + x1) + x2) + x3) + x4) → zF 56 [zR 18 0, zI 70, zI 1] M (fun v M5 => ∃ r5 : Int, v = some (zI r5) ∧ ∀ cl5 : Bool, (zr r5 ∧ zr 1) ∧ ((r5 < 1 → Q (.inl (some (zI 0))) M5 cl5 0) ∧ (¬ (r5 < 1) → zF 56 [zR 18 0, zI 70, zI 1] M5 (fun v M6 => ∃ r6 : Int, v = some (zI r6) ∧ ∀ cl6 : Bool, (zr r6 ∧ zr 1000) ∧ ((1000 < r6 → Q (.inl (some (zI 0))) M6 cl6 0) ∧ (¬ (1000 < r6) → Q (.inl (some (zI 1))) M6 cl6 0))))))))))))) ∧ ((M.1 21 0 1) = 92 → (zr s0) ∧ ((s0 = 0 → Q (.inl (some (zI 0))) M cl 0) ∧ (¬ (s0 = 0) → (zr (M.1 18 0 4) ∧ zr (((2 + x1) + x2) + x3)) ∧ ((¬ (M.1 18 0 4) = (((2 + x1) + x2) + x3) → Q (.inl (some (zI 0))) M cl 0) ∧ ((M.1 18 0 4) = (((2 + x1) + x2) + x3) → Q (.inl (some (zI 1))) M cl 0))))))) ∧ ((M.1 21 0 1) = 4 → (zr (M.1 18 0 4) ∧ zr 3) ∧ ((¬ (M.1 18 0 4) = 3 → Q (.inl (some (zI 0))) M cl 0) ∧ ((M.1 18 0 4) = 3 → (zr (M.1 20 0 2) ∧ zr 80) ∧ ((¬ (M.1 20 0 2) = 80 → Q (.inl (some (zI 0))) M cl 0) ∧ ((M.1 20 0 2) = 80 → (zr (M.1 21 0 2)) ∧ (((M.1 21 0 2) ≤ 0 → Q (.inl (some (zI 0))) M cl 0) ∧ (¬ ((M.1 21 0 2) ≤ 0) → (zr (M.1 21 0 2) ∧ zr 201) ∧ ((201 ≤ (M.1 21 0 2) → Q (.inl (some (zI 0))) M cl 0) ∧ (¬ (201 ≤ (M.1 21 0 2)) → Q (.inl (some (zI 1))) M cl 0))))))))))) ∧ ((M.1 21 0 1) = 91 → (zr (M.1 18 0 4) ∧ zr 2) ∧ ((¬ (M.1 18 0 4) = 2 → Q (.inl (some (zI 0))) M cl 0) ∧ ((M.1 18 0 4) = 2 → Q (.inl (some (zI 1))) M cl 0))))))) : zT 57 (76, [some (zR 18 0), some (zI x1), some (zI x2), some (zI x3), some (zI x4), u5, u6], [zI s0], M, cl) Q := by
  refine zT.it 4 (t := (83, [some (zR 18 0), some (zI x1), some (zI x2), some (zI x3), some (zI x4), some (zI s0), u6], [zI 1, zR 21 0], M, cl)) rfl ?_
  refine zT.chk (t := (84, [some (zR 18 0), some (zI x1), some (zI x2), some (zI x3), some (zI x4), some (zI s0), u6], [zI (M.1 21 0 1)], M, cl)) rfl (by first | decide | (dsimp only; decide)) ?_
  refine zT.it 3 (t := (90, [some (zR 18 0), some (zI x1), some (zI x2), some (zI x3), some (zI x4), some (zI s0), some (zI (M.1 21 0 1))], [zI 90, zI (M.1 21 0 1)], M, cl)) rfl ?_
  refine zT.br (g := zr (M.1 21 0 1) ∧ zr 90) (p := (M.1 21 0 1) = 90) (t := (100, [some (zR 18 0), some (zI x1), some (zI x2), some (zI x3), some (zI x4), some (zI s0), some (zI (M.1 21 0 1))], [], M, cl)) (u := (93, [some (zR 18 0), some (zI x1), some (zI x2), some (zI x3), some (zI x4), some (zI s0), some (zI (M.1 21 0 1))], [], M, cl)) rfl h.1 (fun c => ?_) (fun c => ?_)
  · replace h := h.2.1 c
    refine zT.it 3 (t := (105, [some (zR 18 0), some (zI x1), some (zI x2), some (zI x3), some (zI x4), some (zI s0), some (zI (M.1 21 0 1))], [zI 2, zI (M.1 18 0 4)], M, cl)) rfl ?_
    refine zT.br (g := zr (M.1 18 0 4) ∧ zr 2) (p := ¬ (M.1 18 0 4) = 2) (t := (112, [some (zR 18 0), some (zI x1), some (zI x2), some (zI x3), some (zI x4), some (zI s0), some (zI (M.1 21 0 1))], [], M, cl)) (u := (108, [some (zR 18 0), some (zI x1), some (zI x2), some (zI x3), some (zI x4), some (zI s0), some (zI (M.1 21 0 1))], [], M, cl)) rfl h.1 (fun c => ?_) (fun c => ?_)
    · replace h := h.2.1 c
      refine zT.it 1 (t := (113, [some (zR 18 0), some (zI x1), some (zI x2), some (zI x3), some (zI x4), some (zI s0), some (zI (M.1 21 0 1))], [zI 0], M, cl)) rfl ?_
      exact zT.ret (v := some (zI 0)) rfl (by first | exact trivial | decide) h
    · replace h := h.2.2 (Decidable.not_not.1 c)
      refine zT.it 2 (t := (113, [some (zR 18 0), some (zI x1), some (zI x2), some (zI x3), some (zI x4), some (zI s0), some (zI (M.1 21 0 1))], [zI 1], M, cl)) rfl ?_
      exact zT.ret (v := some (zI 1)) rfl (by first | exact trivial | decide) h
  · replace h := h.2.2 c
    refine zT.it 2 (t := (97, [some (zR 18 0), some (zI x1), some (zI x2), some (zI x3), some (zI x4), some (zI s0), some (zI (M.1 21 0 1))], [zI 91, zI (M.1 21 0 1)], M, cl)) rfl ?_
    refine zT.br (g := zr (M.1 21 0 1) ∧ zr 91) (p := ¬ (M.1 21 0 1) = 91) (t := (114, [some (zR 18 0), some (zI x1), some (zI x2), some (zI x3), some (zI x4), some (zI s0), some (zI (M.1 21 0 1))], [], M, cl)) (u := (100, [some (zR 18 0), some (zI x1), some (zI x2), some (zI x3), some (zI x4), some (zI s0), some (zI (M.1 21 0 1))], [], M, cl)) rfl h.1 (fun c => ?_) (fun c => ?_)
    · replace h := h.2.1 c
      refine zT.it 2 (t := (117, [some (zR 18 0), some (zI x1), some (zI x2), some (zI x3), some (zI x4), some (zI s0), some (zI (M.1 21 0 1))], [zI 4, zI (M.1 21 0 1)], M, cl)) rfl ?_
      refine zT.br (g := zr (M.1 21 0 1) ∧ zr 4) (p := ¬ (M.1 21 0 1) = 4) (t := (166, [some (zR 18 0), some (zI x1), some (zI x2), some (zI x3), some (zI x4), some (zI s0), some (zI (M.1 21 0 1))], [], M, cl)) (u := (120, [some (zR 18 0), some (zI x1), some (zI x2), some (zI x3), some (zI x4), some (zI s0), some (zI (M.1 21 0 1))], [], M, cl)) rfl h.1 (fun c => ?_) (fun c => ?_)
      · replace h := h.2.1 c
        refine zT.it 2 (t := (170, [some (zR 18 0), some (zI x1), some (zI x2), some (zI x3), some (zI x4), some (zI s0), some (zI (M.1 21 0 1))], [zI 92, zI (M.1 21 0 1)], M, cl)) rfl ?_
        refine zT.br (g := zr (M.1 21 0 1) ∧ zr 92) (p := ¬ (M.1 21 0 1) = 92) (t := (198, [some (zR 18 0), some (zI x1), some (zI x2), some (zI x3), some (zI x4), some (zI s0), some (zI (M.1 21 0 1))], [], M, cl)) (u := (173, [some (zR 18 0), some (zI x1), some (zI x2), some (zI x3), some (zI x4), some (zI s0), some (zI (M.1 21 0 1))], [], M, cl)) rfl h.1 (fun c => ?_) (fun c => ?_)
        · replace h := h.2.1 c
          refine zT.it 2 (t := (201, [some (zR 18 0), some (zI x1), some (zI x2), some (zI x3), some (zI x4), some (zI s0), some (zI (M.1 21 0 1))], [zI 1, zI (M.1 21 0 1)], M, cl)) rfl ?_
          refine zT.br (g := zr (M.1 21 0 1) ∧ zr 1) (p := ¬ (M.1 21 0 1) = 1) (t := (254, [some (zR 18 0), some (zI x1), some (zI x2), some (zI x3), some (zI x4), some (zI s0), some (zI (M.1 21 0 1))], [], M, cl)) (u := (204, [some (zR 18 0), some (zI x1), some (zI x2), some (zI x3), some (zI x4), some (zI s0), some (zI (M.1 21 0 1))], [], M, cl)) rfl h.1 (fun c => ?_) (fun c => ?_)
          · replace h := h.2.1 c
            refine zT.it 1 (t := (255, [some (zR 18 0), some (zI x1), some (zI x2), some (zI x3), some (zI x4), some (zI s0), some (zI (M.1 21 0 1))], [zI 0], M, cl)) rfl ?_
            exact zT.ret (v := some (zI 0)) rfl (by first | exact trivial | decide) h
          · replace h := h.2.2 (Decidable.not_not.1 c)
            refine zT.it 1 (t := (206, [some (zR 18 0), some (zI x1), some (zI x2), some (zI x3), some (zI x4), some (zI s0), some (zI (M.1 21 0 1))], [zI s0], M, cl)) rfl ?_
            refine zT.br (g := zr s0) (p := s0 = 0) (t := (254, [some (zR 18 0), some (zI x1), some (zI x2), some (zI x3), some (zI x4), some (zI s0), some (zI (M.1 21 0 1))], [], M, cl)) (u := (209, [some (zR 18 0), some (zI x1), some (zI x2), some (zI x3), some (zI x4), some (zI s0), some (zI (M.1 21 0 1))], [], M, cl)) rfl h.1 (fun c => ?_) (fun c => ?_)
            · replace h := h.2.1 c
              refine zT.it 1 (t := (255, [some (zR 18 0), some (zI x1), some (zI x2), some (zI x3), some (zI x4), some (zI s0), some (zI (M.1 21 0 1))], [zI 0], M, cl)) rfl ?_
              exact zT.ret (v := some (zI 0)) rfl (by first | exact trivial | decide) h
            · replace h := h.2.2 c
              refine zT.it 11 (t := (223, [some (zR 18 0), some (zI x1), some (zI x2), some (zI x3), some (zI x4), some (zI s0), some (zI (M.1 21 0 1))], [zI ((((2 + x1) + x2) + x3) + x4), zI (M.1 18 0 4)], M, cl)) rfl ?_
              refine zT.br (g := zr (M.1 18 0 4) ∧ zr ((((2 + x1) + x2) + x3) + x4)) (p := ¬ (M.1 18 0 4) = ((((2 + x1) + x2) + x3) + x4)) (t := (254, [some (zR 18 0), some (zI x1), some (zI x2), some (zI x3), some (zI x4), some (zI s0), some (zI (M.1 21 0 1))], [], M, cl)) (u := (226, [some (zR 18 0), some (zI x1), some (zI x2), some (zI x3), some (zI x4), some (zI s0), some (zI (M.1 21 0 1))], [], M, cl)) rfl h.1 (fun c => ?_) (fun c => ?_)
              · replace h := h.2.1 c
                refine zT.it 1 (t := (255, [some (zR 18 0), some (zI x1), some (zI x2), some (zI x3), some (zI x4), some (zI s0), some (zI (M.1 21 0 1))], [zI 0], M, cl)) rfl ?_
                exact zT.ret (v := some (zI 0)) rfl (by first | exact trivial | decide) h
              · replace h := h.2.2 (Decidable.not_not.1 c)
                refine zT.it 3 (t := (230, [some (zR 18 0), some (zI x1), some (zI x2), some (zI x3), some (zI x4), some (zI s0), some (zI (M.1 21 0 1))], [zI 1, zI 70, zR 18 0], M, cl)) rfl ?_
                refine zT.call (m := 56) (as := [zR 18 0, zI 70, zI 1]) (M := M) (L := [some (zR 18 0), some (zI x1), some (zI x2), some (zI x3), some (zI x4), some (zI s0), some (zI (M.1 21 0 1))]) (st := []) (pn := 233) (cl := cl) rfl ?_
                refine zF.mono h (fun v M5 h cl5 => ?_)
                obtain ⟨r5, e5, h⟩ := h; subst e5; replace h := h cl5
                show zT 57 (233, [some (zR 18 0), some (zI x1), some (zI x2), some (zI x3), some (zI x4), some (zI s0), some (zI (M.1 21 0 1))], [zI r5], M5, cl5) _
                refine zT.it 1 (t := (234, [some (zR 18 0), some (zI x1), some (zI x2), some (zI x3), some (zI x4), some (zI s0), some (zI (M.1 21 0 1))], [zI 1, zI r5], M5, cl5)) rfl ?_
                refine zT.br (g := zr r5 ∧ zr 1) (p := r5 < 1) (t := (254, [some (zR 18 0), some (zI x1), some (zI x2), some (zI x3), some (zI x4), some (zI s0), some (zI (M.1 21 0 1))], [], M5, cl5)) (u := (237, [some (zR 18 0), some (zI x1), some (zI x2), some (zI x3), some (zI x4), some (zI s0), some (zI (M.1 21 0 1))], [], M5, cl5)) rfl h.1 (fun c => ?_) (fun c => ?_)
                · replace h := h.2.1 c
                  refine zT.it 1 (t := (255, [some (zR 18 0), some (zI x1), some (zI x2), some (zI x3), some (zI x4), some (zI s0), some (zI (M.1 21 0 1))], [zI 0], M5, cl5)) rfl ?_
                  exact zT.ret (v := some (zI 0)) rfl (by first | exact trivial | decide) h
                · replace h := h.2.2 c
                  refine zT.it 3 (t := (241, [some (zR 18 0), some (zI x1), some (zI x2), some (zI x3), some (zI x4), some (zI s0), some (zI (M.1 21 0 1))], [zI 1, zI 70, zR 18 0], M5, cl5)) rfl ?_
                  refine zT.call (m := 56) (as := [zR 18 0, zI 70, zI 1]) (M := M5) (L := [some (zR 18 0), some (zI x1), some (zI x2), some (zI x3), some (zI x4), some (zI s0), some (zI (M.1 21 0 1))]) (st := []) (pn := 244) (cl := cl5) rfl ?_
                  refine zF.mono h (fun v M6 h cl6 => ?_)
                  obtain ⟨r6, e6, h⟩ := h; subst e6; replace h := h cl6
                  show zT 57 (244, [some (zR 18 0), some (zI x1), some (zI x2), some (zI x3), some (zI x4), some (zI s0), some (zI (M.1 21 0 1))], [zI r6], M6, cl6) _
                  refine zT.it 1 (t := (247, [some (zR 18 0), some (zI x1), some (zI x2), some (zI x3), some (zI x4), some (zI s0), some (zI (M.1 21 0 1))], [zI 1000, zI r6], M6, cl6)) rfl ?_
                  refine zT.br (g := zr r6 ∧ zr 1000) (p := 1000 < r6) (t := (254, [some (zR 18 0), some (zI x1), some (zI x2), some (zI x3), some (zI x4), some (zI s0), some (zI (M.1 21 0 1))], [], M6, cl6)) (u := (250, [some (zR 18 0), some (zI x1), some (zI x2), some (zI x3), some (zI x4), some (zI s0), some (zI (M.1 21 0 1))], [], M6, cl6)) rfl h.1 (fun c => ?_) (fun c => ?_)
                  · replace h := h.2.1 c
                    refine zT.it 1 (t := (255, [some (zR 18 0), some (zI x1), some (zI x2), some (zI x3), some (zI x4), some (zI s0), some (zI (M.1 21 0 1))], [zI 0], M6, cl6)) rfl ?_
                    exact zT.ret (v := some (zI 0)) rfl (by first | exact trivial | decide) h
                  · replace h := h.2.2 c
                    refine zT.it 2 (t := (255, [some (zR 18 0), some (zI x1), some (zI x2), some (zI x3), some (zI x4), some (zI s0), some (zI (M.1 21 0 1))], [zI 1], M6, cl6)) rfl ?_
                    exact zT.ret (v := some (zI 1)) rfl (by first | exact trivial | decide) h
        · replace h := h.2.2 (Decidable.not_not.1 c)
          refine zT.it 1 (t := (175, [some (zR 18 0), some (zI x1), some (zI x2), some (zI x3), some (zI x4), some (zI s0), some (zI (M.1 21 0 1))], [zI s0], M, cl)) rfl ?_
          refine zT.br (g := zr s0) (p := s0 = 0) (t := (196, [some (zR 18 0), some (zI x1), some (zI x2), some (zI x3), some (zI x4), some (zI s0), some (zI (M.1 21 0 1))], [], M, cl)) (u := (178, [some (zR 18 0), some (zI x1), some (zI x2), some (zI x3), some (zI x4), some (zI s0), some (zI (M.1 21 0 1))], [], M, cl)) rfl h.1 (fun c => ?_) (fun c => ?_)
          · replace h := h.2.1 c
            refine zT.it 1 (t := (197, [some (zR 18 0), some (zI x1), some (zI x2), some (zI x3), some (zI x4), some (zI s0), some (zI (M.1 21 0 1))], [zI 0], M, cl)) rfl ?_
            exact zT.ret (v := some (zI 0)) rfl (by first | exact trivial | decide) h
          · replace h := h.2.2 c
            refine zT.it 9 (t := (189, [some (zR 18 0), some (zI x1), some (zI x2), some (zI x3), some (zI x4), some (zI s0), some (zI (M.1 21 0 1))], [zI (((2 + x1) + x2) + x3), zI (M.1 18 0 4)], M, cl)) rfl ?_
            refine zT.br (g := zr (M.1 18 0 4) ∧ zr (((2 + x1) + x2) + x3)) (p := ¬ (M.1 18 0 4) = (((2 + x1) + x2) + x3)) (t := (196, [some (zR 18 0), some (zI x1), some (zI x2), some (zI x3), some (zI x4), some (zI s0), some (zI (M.1 21 0 1))], [], M, cl)) (u := (192, [some (zR 18 0), some (zI x1), some (zI x2), some (zI x3), some (zI x4), some (zI s0), some (zI (M.1 21 0 1))], [], M, cl)) rfl h.1 (fun c => ?_) (fun c => ?_)
            · replace h := h.2.1 c
              refine zT.it 1 (t := (197, [some (zR 18 0), some (zI x1), some (zI x2), some (zI x3), some (zI x4), some (zI s0), some (zI (M.1 21 0 1))], [zI 0], M, cl)) rfl ?_
              exact zT.ret (v := some (zI 0)) rfl (by first | exact trivial | decide) h
            · replace h := h.2.2 (Decidable.not_not.1 c)
              refine zT.it 2 (t := (197, [some (zR 18 0), some (zI x1), some (zI x2), some (zI x3), some (zI x4), some (zI s0), some (zI (M.1 21 0 1))], [zI 1], M, cl)) rfl ?_
              exact zT.ret (v := some (zI 1)) rfl (by first | exact trivial | decide) h
      · replace h := h.2.2 (Decidable.not_not.1 c)
        refine zT.it 3 (t := (125, [some (zR 18 0), some (zI x1), some (zI x2), some (zI x3), some (zI x4), some (zI s0), some (zI (M.1 21 0 1))], [zI 3, zI (M.1 18 0 4)], M, cl)) rfl ?_
        refine zT.br (g := zr (M.1 18 0 4) ∧ zr 3) (p := ¬ (M.1 18 0 4) = 3) (t := (164, [some (zR 18 0), some (zI x1), some (zI x2), some (zI x3), some (zI x4), some (zI s0), some (zI (M.1 21 0 1))], [], M, cl)) (u := (128, [some (zR 18 0), some (zI x1), some (zI x2), some (zI x3), some (zI x4), some (zI s0), some (zI (M.1 21 0 1))], [], M, cl)) rfl h.1 (fun c => ?_) (fun c => ?_)
        · replace h := h.2.1 c
          refine zT.it 1 (t := (165, [some (zR 18 0), some (zI x1), some (zI x2), some (zI x3), some (zI x4), some (zI s0), some (zI (M.1 21 0 1))], [zI 0], M, cl)) rfl ?_
          exact zT.ret (v := some (zI 0)) rfl (by first | exact trivial | decide) h
        · replace h := h.2.2 (Decidable.not_not.1 c)
          refine zT.it 3 (t := (133, [some (zR 18 0), some (zI x1), some (zI x2), some (zI x3), some (zI x4), some (zI s0), some (zI (M.1 21 0 1))], [zI 2, zR 20 0], M, cl)) rfl ?_
          refine zT.chk (t := (134, [some (zR 18 0), some (zI x1), some (zI x2), some (zI x3), some (zI x4), some (zI s0), some (zI (M.1 21 0 1))], [zI (M.1 20 0 2)], M, cl)) rfl (by first | decide | (dsimp only; decide)) ?_
          refine zT.it 1 (t := (136, [some (zR 18 0), some (zI x1), some (zI x2), some (zI x3), some (zI x4), some (zI s0), some (zI (M.1 21 0 1))], [zI 80, zI (M.1 20 0 2)], M, cl)) rfl ?_
          refine zT.br (g := zr (M.1 20 0 2) ∧ zr 80) (p := ¬ (M.1 20 0 2) = 80) (t := (164, [some (zR 18 0), some (zI x1), some (zI x2), some (zI x3), some (zI x4), some (zI s0), some (zI (M.1 21 0 1))], [], M, cl)) (u := (139, [some (zR 18 0), some (zI x1), some (zI x2), some (zI x3), some (zI x4), some (zI s0), some (zI (M.1 21 0 1))], [], M, cl)) rfl h.1 (fun c => ?_) (fun c => ?_)
          · replace h := h.2.1 c
            refine zT.it 1 (t := (165, [some (zR 18 0), some (zI x1), some (zI x2), some (zI x3), some (zI x4), some (zI s0), some (zI (M.1 21 0 1))], [zI 0], M, cl)) rfl ?_
            exact zT.ret (v := some (zI 0)) rfl (by first | exact trivial | decide) h
          · replace h := h.2.2 (Decidable.not_not.1 c)
            refine zT.it 3 (t := (144, [some (zR 18 0), some (zI x1), some (zI x2), some (zI x3), some (zI x4), some (zI s0), some (zI (M.1 21 0 1))], [zI 2, zR 21 0], M, cl)) rfl ?_
            refine zT.chk (t := (145, [some (zR 18 0), some (zI x1), some (zI x2), some (zI x3), some (zI x4), some (zI s0), some (zI (M.1 21 0 1))], [zI (M.1 21 0 2)], M, cl)) rfl (by first | decide | (dsimp only; decide)) ?_
            refine zT.br (g := zr (M.1 21 0 2)) (p := (M.1 21 0 2) ≤ 0) (t := (164, [some (zR 18 0), some (zI x1), some (zI x2), some (zI x3), some (zI x4), some (zI s0), some (zI (M.1 21 0 1))], [], M, cl)) (u := (148, [some (zR 18 0), some (zI x1), some (zI x2), some (zI x3), some (zI x4), some (zI s0), some (zI (M.1 21 0 1))], [], M, cl)) rfl h.1 (fun c => ?_) (fun c => ?_)
            · replace h := h.2.1 c
              refine zT.it 1 (t := (165, [some (zR 18 0), some (zI x1), some (zI x2), some (zI x3), some (zI x4), some (zI s0), some (zI (M.1 21 0 1))], [zI 0], M, cl)) rfl ?_
              exact zT.ret (v := some (zI 0)) rfl (by first | exact trivial | decide) h
            · replace h := h.2.2 c
              refine zT.it 3 (t := (153, [some (zR 18 0), some (zI x1), some (zI x2), some (zI x3), some (zI x4), some (zI s0), some (zI (M.1 21 0 1))], [zI 2, zR 21 0], M, cl)) rfl ?_
              refine zT.chk (t := (154, [some (zR 18 0), some (zI x1), some (zI x2), some (zI x3), some (zI x4), some (zI s0), some (zI (M.1 21 0 1))], [zI (M.1 21 0 2)], M, cl)) rfl (by first | decide | (dsimp only; decide)) ?_
              refine zT.it 1 (t := (157, [some (zR 18 0), some (zI x1), some (zI x2), some (zI x3), some (zI x4), some (zI s0), some (zI (M.1 21 0 1))], [zI 201, zI (M.1 21 0 2)], M, cl)) rfl ?_
              refine zT.br (g := zr (M.1 21 0 2) ∧ zr 201) (p := 201 ≤ (M.1 21 0 2)) (t := (164, [some (zR 18 0), some (zI x1), some (zI x2), some (zI x3), some (zI x4), some (zI s0), some (zI (M.1 21 0 1))], [], M, cl)) (u := (160, [some (zR 18 0), some (zI x1), some (zI x2), some (zI x3), some (zI x4), some (zI s0), some (zI (M.1 21 0 1))], [], M, cl)) rfl h.1 (fun c => ?_) (fun c => ?_)
              · replace h := h.2.1 c
                refine zT.it 1 (t := (165, [some (zR 18 0), some (zI x1), some (zI x2), some (zI x3), some (zI x4), some (zI s0), some (zI (M.1 21 0 1))], [zI 0], M, cl)) rfl ?_
                exact zT.ret (v := some (zI 0)) rfl (by first | exact trivial | decide) h
              · replace h := h.2.2 c
                refine zT.it 2 (t := (165, [some (zR 18 0), some (zI x1), some (zI x2), some (zI x3), some (zI x4), some (zI s0), some (zI (M.1 21 0 1))], [zI 1], M, cl)) rfl ?_
                exact zT.ret (v := some (zI 1)) rfl (by first | exact trivial | decide) h
    · replace h := h.2.2 (Decidable.not_not.1 c)
      refine zT.it 3 (t := (105, [some (zR 18 0), some (zI x1), some (zI x2), some (zI x3), some (zI x4), some (zI s0), some (zI (M.1 21 0 1))], [zI 2, zI (M.1 18 0 4)], M, cl)) rfl ?_
      refine zT.br (g := zr (M.1 18 0 4) ∧ zr 2) (p := ¬ (M.1 18 0 4) = 2) (t := (112, [some (zR 18 0), some (zI x1), some (zI x2), some (zI x3), some (zI x4), some (zI s0), some (zI (M.1 21 0 1))], [], M, cl)) (u := (108, [some (zR 18 0), some (zI x1), some (zI x2), some (zI x3), some (zI x4), some (zI s0), some (zI (M.1 21 0 1))], [], M, cl)) rfl h.1 (fun c => ?_) (fun c => ?_)
      · replace h := h.2.1 c
        refine zT.it 1 (t := (113, [some (zR 18 0), some (zI x1), some (zI x2), some (zI x3), some (zI x4), some (zI s0), some (zI (M.1 21 0 1))], [zI 0], M, cl)) rfl ?_
        exact zT.ret (v := some (zI 0)) rfl (by first | exact trivial | decide) h
      · replace h := h.2.2 (Decidable.not_not.1 c)
        refine zT.it 2 (t := (113, [some (zR 18 0), some (zI x1), some (zI x2), some (zI x3), some (zI x4), some (zI s0), some (zI (M.1 21 0 1))], [zI 1], M, cl)) rfl ?_
        exact zT.ret (v := some (zI 1)) rfl (by first | exact trivial | decide) h
theorem g58_0 {a1 : Int} {M : zM} {Q : zQ} (h : (zr a1) ∧ ((¬ a1 = 0 → (zr a1 ∧ zr 1) ∧ ((¬ a1 = 1 → Q (.inl (some (zI 69))) M true 0) ∧ (a1 = 1 → Q (.inl (some (zI 89))) M true 0))) ∧ (a1 = 0 → Q (.inl (some (zI 88))) M true 0))) : zT 58 (0, [some (zI a1)], [], M, true) Q := by
  refine zT.it 1 (t := (1, [some (zI a1)], [zI a1], M, true)) rfl ?_
  refine zT.br (g := zr a1) (p := ¬ a1 = 0) (t := (9, [some (zI a1)], [], M, true)) (u := (4, [some (zI a1)], [], M, true)) rfl h.1 (fun c => ?_) (fun c => ?_)
  · replace h := h.2.1 c
    refine zT.it 2 (t := (11, [some (zI a1)], [zI 1, zI a1], M, true)) rfl ?_
    refine zT.br (g := zr a1 ∧ zr 1) (p := ¬ a1 = 1) (t := (19, [some (zI a1)], [], M, true)) (u := (14, [some (zI a1)], [], M, true)) rfl h.1 (fun c => ?_) (fun c => ?_)
    · replace h := h.2.1 c
      refine zT.it 1 (t := (21, [some (zI a1)], [zI 69], M, true)) rfl ?_
      exact zT.ret (v := some (zI 69)) rfl (by first | exact trivial | decide) h
    · replace h := h.2.2 (Decidable.not_not.1 c)
      refine zT.it 2 (t := (21, [some (zI a1)], [zI 89], M, true)) rfl ?_
      exact zT.ret (v := some (zI 89)) rfl (by first | exact trivial | decide) h
  · replace h := h.2.2 (Decidable.not_not.1 c)
    refine zT.it 2 (t := (21, [some (zI a1)], [zI 88], M, true)) rfl ?_
    exact zT.ret (v := some (zI 88)) rfl (by first | exact trivial | decide) h
theorem g59_0 {a1 : Int} {M : zM} {Q : zQ} (h : (zr a1) ∧ ((0 ≤ a1 → Q (.inl (some (zI a1))) M true 0) ∧ (¬ (0 ≤ a1) → Q (.inl (some (zI (-a1)))) M true 0))) : zT 59 (0, [some (zI a1)], [], M, true) Q := by
  refine zT.it 1 (t := (1, [some (zI a1)], [zI a1], M, true)) rfl ?_
  refine zT.br (g := zr a1) (p := 0 ≤ a1) (t := (9, [some (zI a1)], [], M, true)) (u := (4, [some (zI a1)], [], M, true)) rfl h.1 (fun c => ?_) (fun c => ?_)
  · replace h := h.2.1 c
    refine zT.it 1 (t := (10, [some (zI a1)], [zI a1], M, true)) rfl ?_
    exact zT.ret (v := some (zI a1)) rfl (by first | exact trivial | decide) h
  · replace h := h.2.2 c
    refine zT.it 3 (t := (10, [some (zI a1)], [zI (-a1)], M, true)) rfl ?_
    exact zT.ret (v := some (zI (-a1))) rfl (by first | exact trivial | decide) h
theorem g60_0 {M : zM} {Q : zQ} (h : zT 60 (4, [some (zR 18 0), some (zI 1), some (zI 0), none], [], M, true) Q) : zT 60 (0, [some (zR 18 0), none, none, none], [], M, true) Q := by
  refine zT.it 4 (t := (4, [some (zR 18 0), some (zI 1), some (zI 0), none], [], M, true)) rfl ?_
  exact h
theorem g60_4a0 {x1 : Int} {u3 : Option zV} {M : zM} {cl : Bool} {Q : zQ} (h : zF 58 [zI 0] M (fun v M1 => ∃ r1 : Int, v = some (zI r1) ∧ ∀ cl1 : Bool, zF 56 [zR 18 0, zI r1, zI 0] M1 (fun v M2 => ∃ r2 : Int, v = some (zI r2) ∧ ∀ cl2 : Bool, zF 58 [zI 0] M2 (fun v M3 => ∃ r3 : Int, v = some (zI r3) ∧ ∀ cl3 : Bool, zF 55 [zR 18 0, zI r3] M3 (fun v M4 => ∃ r4 : Int, v = some (zI r4) ∧ ∀ cl4 : Bool, (zr r4) ∧ ((¬ r4 = 0 → (zr (M4.1 18 0 9)) ∧ (((M4.1 18 0 9) = 0 → (zr x1) ∧ ((x1 = 0 → zT 60 (144, [some (zR 18 0), some (zI x1), some (zI 0), some (zI r2)], [zI 0], (z_w M4 25 0 0 ((M4.1 22 0 0) + r2)), false) Q) ∧ (¬ (x1 = 0) → (zr ((M4.1 22 0 0) + r2) ∧ zr 0) ∧ ((((M4.1 22 0 0) + r2) < 0 → zT 60 (144, [some (zR 18 0), some (zI x1), some (zI 0), some (zI r2)], [zI 0], (z_w M4 25 0 0 ((M4.1 22 0 0) + r2)), false) Q) ∧ (¬ (((M4.1 22 0 0) + r2) < 0) → (zr ((M4.1 22 0 0) + r2) ∧ zr 999) ∧ ((999 < ((M4.1 22 0 0) + r2) → zT 60 (144, [some (zR 18 0), some (zI x1), some (zI 0), some (zI r2)], [zI 0], (z_w M4 25 0 0 ((M4.1 22 0 0) + r2)), false) Q) ∧ (¬ (999 < ((M4.1 22 0 0) + r2)) → zF 59 [zI (((M4.1 22 0 0) + r2) - (M4.1 24 0 0))] (z_w M4 25 0 0 ((M4.1 22 0 0) + r2)) (fun v M5 => ∃ r5 : Int, v = some (zI r5) ∧ ∀ cl5 : Bool, (zr r5 ∧ zr 500) ∧ ((500 < r5 → zT 60 (144, [some (zR 18 0), some (zI x1), some (zI 0), some (zI r2)], [zI 0], M5, cl5) Q) ∧ (¬ (500 < r5) → zT 60 (144, [some (zR 18 0), some (zI x1), some (zI 0), some (zI r2)], [zI 1], M5, cl5) Q)))))))))) ∧ (¬ ((M4.1 18 0 9) = 0) → (zr x1) ∧ ((x1 = 0 → zT 60 (144, [some (zR 18 0), some (zI x1), some (zI 0), some (zI r2)], [zI 0], (z_w M4 25 0 0 ((M4.1 24 0 0) + r2)), false) Q) ∧ (¬ (x1 = 0) → (zr ((M4.1 24 0 0) + r2) ∧ zr 0) ∧ ((((M4.1 24 0 0) + r2) < 0 → zT 60 (144, [some (zR 18 0), some (zI x1), some (zI 0), some (zI r2)], [zI 0], (z_w M4 25 0 0 ((M4.1 24 0 0) + r2)), false) Q) ∧ (¬ (((M4.1 24 0 0) + r2) < 0) → (zr ((M4.1 24 0 0) + r2) ∧ zr 999) ∧ ((999 < ((M4.1 24 0 0) + r2) → zT 60 (144, [some (zR 18 0), some (zI x1), some (zI 0), some (zI r2)], [zI 0], (z_w M4 25 0 0 ((M4.1 24 0 0) + r2)), false) Q) ∧ (¬ (999 < ((M4.1 24 0 0) + r2)) → zF 59 [zI (((M4.1 24 0 0) + r2) - (M4.1 24 0 0))] (z_w M4 25 0 0 ((M4.1 24 0 0) + r2)) (fun v M6 => ∃ r6 : Int, v = some (zI r6) ∧ ∀ cl6 : Bool, (zr r6 ∧ zr 500) ∧ ((500 < r6 → zT 60 (144, [some (zR 18 0), some (zI x1), some (zI 0), some (zI r2)], [zI 0], M6, cl6) Q) ∧ (¬ (500 < r6) → zT 60 (144, [some (zR 18 0), some (zI x1), some (zI 0), some (zI r2)], [zI 1], M6, cl6) Q)))))))))))) ∧ (r4 = 0 → (zr x1) ∧ ((x1 = 0 → zT 60 (144, [some (zR 18 0), some (zI x1), some (zI 0), some (zI r2)], [zI 0], (z_w M4 25 0 0 (M4.1 24 0 0)), false) Q) ∧ (¬ (x1 = 0) → (zr (M4.1 24 0 0) ∧ zr 0) ∧ (((M4.1 24 0 0) < 0 → zT 60 (144, [some (zR 18 0), some (zI x1), some (zI 0), some (zI r2)], [zI 0], (z_w M4 25 0 0 (M4.1 24 0 0)), false) Q) ∧ (¬ ((M4.1 24 0 0) < 0) → (zr (M4.1 24 0 0) ∧ zr 999) ∧ ((999 < (M4.1 24 0 0) → zT 60 (144, [some (zR 18 0), some (zI x1), some (zI 0), some (zI r2)], [zI 0], (z_w M4 25 0 0 (M4.1 24 0 0)), false) Q) ∧ (¬ (999 < (M4.1 24 0 0)) → zF 59 [zI ((M4.1 24 0 0) - (M4.1 24 0 0))] (z_w M4 25 0 0 (M4.1 24 0 0)) (fun v M7 => ∃ r7 : Int, v = some (zI r7) ∧ ∀ cl7 : Bool, (zr r7 ∧ zr 500) ∧ ((500 < r7 → zT 60 (144, [some (zR 18 0), some (zI x1), some (zI 0), some (zI r2)], [zI 0], M7, cl7) Q) ∧ (¬ (500 < r7) → zT 60 (144, [some (zR 18 0), some (zI x1), some (zI 0), some (zI r2)], [zI 1], M7, cl7) Q)))))))))))))))) : zT 60 (4, [some (zR 18 0), some (zI x1), some (zI 0), u3], [], M, cl) Q := by
  refine zT.it 2 (t := (6, [some (zR 18 0), some (zI x1), some (zI 0), u3], [zI 3, zI 0], M, cl)) rfl ?_
  refine zT.br (g := zr 0 ∧ zr 3) (p := 3 ≤ 0) (t := (151, [some (zR 18 0), some (zI x1), some (zI 0), u3], [], M, cl)) (u := (9, [some (zR 18 0), some (zI x1), some (zI 0), u3], [], M, cl)) rfl (by decide) (fun c => absurd c (by decide)) (fun c => ?_)
  refine zT.it 2 (t := (11, [some (zR 18 0), some (zI x1), some (zI 0), u3], [zI 0, zR 18 0], M, cl)) rfl ?_
  refine zT.call (m := 58) (as := [zI 0]) (M := M) (L := [some (zR 18 0), some (zI x1), some (zI 0), u3]) (st := [zR 18 0]) (pn := 14) (cl := cl) rfl ?_
  refine zF.mono h (fun v M1 h cl1 => ?_)
  obtain ⟨r1, e1, h⟩ := h; subst e1; replace h := h cl1
  show zT 60 (14, [some (zR 18 0), some (zI x1), some (zI 0), u3], [zI r1, zR 18 0], M1, cl1) _
  refine zT.it 1 (t := (15, [some (zR 18 0), some (zI x1), some (zI 0), u3], [zI 0, zI r1, zR 18 0], M1, cl1)) rfl ?_
  refine zT.call (m := 56) (as := [zR 18 0, zI r1, zI 0]) (M := M1) (L := [some (zR 18 0), some (zI x1), some (zI 0), u3]) (st := []) (pn := 18) (cl := cl1) rfl ?_
  refine zF.mono h (fun v M2 h cl2 => ?_)
  obtain ⟨r2, e2, h⟩ := h; subst e2; replace h := h cl2
  show zT 60 (18, [some (zR 18 0), some (zI x1), some (zI 0), u3], [zI r2], M2, cl2) _
  refine zT.it 6 (t := (26, [some (zR 18 0), some (zI x1), some (zI 0), some (zI r2)], [zI 0, zR 18 0, zI 0, zR 25 0], M2, cl2)) rfl ?_
  refine zT.call (m := 58) (as := [zI 0]) (M := M2) (L := [some (zR 18 0), some (zI x1), some (zI 0), some (zI r2)]) (st := [zR 18 0, zI 0, zR 25 0]) (pn := 29) (cl := cl2) rfl ?_
  refine zF.mono h (fun v M3 h cl3 => ?_)
  obtain ⟨r3, e3, h⟩ := h; subst e3; replace h := h cl3
  show zT 60 (29, [some (zR 18 0), some (zI x1), some (zI 0), some (zI r2)], [zI r3, zR 18 0, zI 0, zR 25 0], M3, cl3) _
  refine zT.call (m := 55) (as := [zR 18 0, zI r3]) (M := M3) (L := [some (zR 18 0), some (zI x1), some (zI 0), some (zI r2)]) (st := [zI 0, zR 25 0]) (pn := 32) (cl := cl3) rfl ?_
  refine zF.mono h (fun v M4 h cl4 => ?_)
  obtain ⟨r4, e4, h⟩ := h; subst e4; replace h := h cl4
  show zT 60 (32, [some (zR 18 0), some (zI x1), some (zI 0), some (zI r2)], [zI r4, zI 0, zR 25 0], M4, cl4) _
  refine zT.br (g := zr r4) (p := ¬ r4 = 0) (t := (44, [some (zR 18 0), some (zI x1), some (zI 0), some (zI r2)], [zI 0, zR 25 0], M4, cl4)) (u := (35, [some (zR 18 0), some (zI x1), some (zI 0), some (zI r2)], [zI 0, zR 25 0], M4, cl4)) rfl h.1 (fun c => ?_) (fun c => ?_)
  · replace h := h.2.1 c
    refine zT.it 2 (t := (48, [some (zR 18 0), some (zI x1), some (zI 0), some (zI r2)], [zI (M4.1 18 0 9), zI 0, zR 25 0], M4, cl4)) rfl ?_
    refine zT.br (g := zr (M4.1 18 0 9)) (p := (M4.1 18 0 9) = 0) (t := (62, [some (zR 18 0), some (zI x1), some (zI 0), some (zI r2)], [zI 0, zR 25 0], M4, cl4)) (u := (51, [some (zR 18 0), some (zI x1), some (zI 0), some (zI r2)], [zI 0, zR 25 0], M4, cl4)) rfl h.1 (fun c => ?_) (fun c => ?_)
    · replace h := h.2.1 c
      refine zT.it 3 (t := (67, [some (zR 18 0), some (zI x1), some (zI 0), some (zI r2)], [zI 0, zR 22 0, zI 0, zR 25 0], M4, cl4)) rfl ?_
      refine zT.chk (t := (68, [some (zR 18 0), some (zI x1), some (zI 0), some (zI r2)], [zI (M4.1 22 0 0), zI 0, zR 25 0], M4, cl4)) rfl (by first | decide | (dsimp only; decide)) ?_
      refine zT.it 2 (t := (70, [some (zR 18 0), some (zI x1), some (zI 0), some (zI r2)], [zI ((M4.1 22 0 0) + r2), zI 0, zR 25 0], M4, cl4)) rfl ?_
      refine zT.chk (t := (71, [some (zR 18 0), some (zI x1), some (zI 0), some (zI r2)], [], (z_w M4 25 0 0 ((M4.1 22 0 0) + r2)), false)) rfl (by first | decide | (dsimp only; decide)) ?_
      refine zT.it 1 (t := (72, [some (zR 18 0), some (zI x1), some (zI 0), some (zI r2)], [zI x1], (z_w M4 25 0 0 ((M4.1 22 0 0) + r2)), false)) rfl ?_
      refine zT.br (g := zr x1) (p := x1 = 0) (t := (143, [some (zR 18 0), some (zI x1), some (zI 0), some (zI r2)], [], (z_w M4 25 0 0 ((M4.1 22 0 0) + r2)), false)) (u := (75, [some (zR 18 0), some (zI x1), some (zI 0), some (zI r2)], [], (z_w M4 25 0 0 ((M4.1 22 0 0) + r2)), false)) rfl h.1 (fun c => ?_) (fun c => ?_)
      · replace h := h.2.1 c
        refine zT.it 1 (t := (144, [some (zR 18 0), some (zI x1), some (zI 0), some (zI r2)], [zI 0], (z_w M4 25 0 0 ((M4.1 22 0 0) + r2)), false)) rfl ?_
        exact h
      · replace h := h.2.2 c
        refine zT.it 3 (t := (80, [some (zR 18 0), some (zI x1), some (zI 0), some (zI r2)], [zI 0, zR 25 0], (z_w M4 25 0 0 ((M4.1 22 0 0) + r2)), false)) rfl ?_
        refine zT.chk (t := (81, [some (zR 18 0), some (zI x1), some (zI 0), some (zI r2)], [zI ((M4.1 22 0 0) + r2)], (z_w M4 25 0 0 ((M4.1 22 0 0) + r2)), false)) rfl (by first | decide | (dsimp only; decide)) ?_
        refine zT.it 2 (t := (83, [some (zR 18 0), some (zI x1), some (zI 0), some (zI r2)], [zI 2, zI 0, zI ((M4.1 22 0 0) + r2)], (z_w M4 25 0 0 ((M4.1 22 0 0) + r2)), false)) rfl ?_
        refine zT.br (g := zr 0 ∧ zr 2) (p := ¬ 0 = 2) (t := (91, [some (zR 18 0), some (zI x1), some (zI 0), some (zI r2)], [zI ((M4.1 22 0 0) + r2)], (z_w M4 25 0 0 ((M4.1 22 0 0) + r2)), false)) (u := (86, [some (zR 18 0), some (zI x1), some (zI 0), some (zI r2)], [zI ((M4.1 22 0 0) + r2)], (z_w M4 25 0 0 ((M4.1 22 0 0) + r2)), false)) rfl (by decide) (fun c => ?_) (fun c => absurd (by decide) c)
        refine zT.it 1 (t := (92, [some (zR 18 0), some (zI x1), some (zI 0), some (zI r2)], [zI 0, zI ((M4.1 22 0 0) + r2)], (z_w M4 25 0 0 ((M4.1 22 0 0) + r2)), false)) rfl ?_
        refine zT.br (g := zr ((M4.1 22 0 0) + r2) ∧ zr 0) (p := ((M4.1 22 0 0) + r2) < 0) (t := (143, [some (zR 18 0), some (zI x1), some (zI 0), some (zI r2)], [], (z_w M4 25 0 0 ((M4.1 22 0 0) + r2)), false)) (u := (95, [some (zR 18 0), some (zI x1), some (zI 0), some (zI r2)], [], (z_w M4 25 0 0 ((M4.1 22 0 0) + r2)), false)) rfl h.1 (fun c => ?_) (fun c => ?_)
        · replace h := h.2.1 c
          refine zT.it 1 (t := (144, [some (zR 18 0), some (zI x1), some (zI 0), some (zI r2)], [zI 0], (z_w M4 25 0 0 ((M4.1 22 0 0) + r2)), false)) rfl ?_
          exact h
        · replace h := h.2.2 c
          refine zT.it 3 (t := (100, [some (zR 18 0), some (zI x1), some (zI 0), some (zI r2)], [zI 0, zR 25 0], (z_w M4 25 0 0 ((M4.1 22 0 0) + r2)), false)) rfl ?_
          refine zT.chk (t := (101, [some (zR 18 0), some (zI x1), some (zI 0), some (zI r2)], [zI ((M4.1 22 0 0) + r2)], (z_w M4 25 0 0 ((M4.1 22 0 0) + r2)), false)) rfl (by first | decide | (dsimp only; decide)) ?_
          refine zT.it 2 (t := (103, [some (zR 18 0), some (zI x1), some (zI 0), some (zI r2)], [zI 2, zI 0, zI ((M4.1 22 0 0) + r2)], (z_w M4 25 0 0 ((M4.1 22 0 0) + r2)), false)) rfl ?_
          refine zT.br (g := zr 0 ∧ zr 2) (p := ¬ 0 = 2) (t := (111, [some (zR 18 0), some (zI x1), some (zI 0), some (zI r2)], [zI ((M4.1 22 0 0) + r2)], (z_w M4 25 0 0 ((M4.1 22 0 0) + r2)), false)) (u := (106, [some (zR 18 0), some (zI x1), some (zI 0), some (zI r2)], [zI ((M4.1 22 0 0) + r2)], (z_w M4 25 0 0 ((M4.1 22 0 0) + r2)), false)) rfl (by decide) (fun c => ?_) (fun c => absurd (by decide) c)
          refine zT.it 1 (t := (114, [some (zR 18 0), some (zI x1), some (zI 0), some (zI r2)], [zI 999, zI ((M4.1 22 0 0) + r2)], (z_w M4 25 0 0 ((M4.1 22 0 0) + r2)), false)) rfl ?_
          refine zT.br (g := zr ((M4.1 22 0 0) + r2) ∧ zr 999) (p := 999 < ((M4.1 22 0 0) + r2)) (t := (143, [some (zR 18 0), some (zI x1), some (zI 0), some (zI r2)], [], (z_w M4 25 0 0 ((M4.1 22 0 0) + r2)), false)) (u := (117, [some (zR 18 0), some (zI x1), some (zI 0), some (zI r2)], [], (z_w M4 25 0 0 ((M4.1 22 0 0) + r2)), false)) rfl h.1 (fun c => ?_) (fun c => ?_)
          · replace h := h.2.1 c
            refine zT.it 1 (t := (144, [some (zR 18 0), some (zI x1), some (zI 0), some (zI r2)], [zI 0], (z_w M4 25 0 0 ((M4.1 22 0 0) + r2)), false)) rfl ?_
            exact h
          · replace h := h.2.2 c
            refine zT.it 3 (t := (122, [some (zR 18 0), some (zI x1), some (zI 0), some (zI r2)], [zI 0, zR 25 0], (z_w M4 25 0 0 ((M4.1 22 0 0) + r2)), false)) rfl ?_
            refine zT.chk (t := (123, [some (zR 18 0), some (zI x1), some (zI 0), some (zI r2)], [zI ((M4.1 22 0 0) + r2)], (z_w M4 25 0 0 ((M4.1 22 0 0) + r2)), false)) rfl (by first | decide | (dsimp only; decide)) ?_
            refine zT.it 3 (t := (128, [some (zR 18 0), some (zI x1), some (zI 0), some (zI r2)], [zI 0, zR 24 0, zI ((M4.1 22 0 0) + r2)], (z_w M4 25 0 0 ((M4.1 22 0 0) + r2)), false)) rfl ?_
            refine zT.chk (t := (129, [some (zR 18 0), some (zI x1), some (zI 0), some (zI r2)], [zI (M4.1 24 0 0), zI ((M4.1 22 0 0) + r2)], (z_w M4 25 0 0 ((M4.1 22 0 0) + r2)), false)) rfl (by first | decide | (dsimp only; decide)) ?_
            refine zT.it 1 (t := (130, [some (zR 18 0), some (zI x1), some (zI 0), some (zI r2)], [zI (((M4.1 22 0 0) + r2) - (M4.1 24 0 0))], (z_w M4 25 0 0 ((M4.1 22 0 0) + r2)), false)) rfl ?_
            refine zT.call (m := 59) (as := [zI (((M4.1 22 0 0) + r2) - (M4.1 24 0 0))]) (M := (z_w M4 25 0 0 ((M4.1 22 0 0) + r2))) (L := [some (zR 18 0), some (zI x1), some (zI 0), some (zI r2)]) (st := []) (pn := 133) (cl := false) rfl ?_
            refine zF.mono h (fun v M5 h cl5 => ?_)
            obtain ⟨r5, e5, h⟩ := h; subst e5; replace h := h cl5
            show zT 60 (133, [some (zR 18 0), some (zI x1), some (zI 0), some (zI r2)], [zI r5], M5, cl5) _
            refine zT.it 1 (t := (136, [some (zR 18 0), some (zI x1), some (zI 0), some (zI r2)], [zI 500, zI r5], M5, cl5)) rfl ?_
            refine zT.br (g := zr r5 ∧ zr 500) (p := 500 < r5) (t := (143, [some (zR 18 0), some (zI x1), some (zI 0), some (zI r2)], [], M5, cl5)) (u := (139, [some (zR 18 0), some (zI x1), some (zI 0), some (zI r2)], [], M5, cl5)) rfl h.1 (fun c => ?_) (fun c => ?_)
            · replace h := h.2.1 c
              refine zT.it 1 (t := (144, [some (zR 18 0), some (zI x1), some (zI 0), some (zI r2)], [zI 0], M5, cl5)) rfl ?_
              exact h
            · replace h := h.2.2 c
              refine zT.it 2 (t := (144, [some (zR 18 0), some (zI x1), some (zI 0), some (zI r2)], [zI 1], M5, cl5)) rfl ?_
              exact h
    · replace h := h.2.2 c
      refine zT.it 3 (t := (56, [some (zR 18 0), some (zI x1), some (zI 0), some (zI r2)], [zI 0, zR 24 0, zI 0, zR 25 0], M4, cl4)) rfl ?_
      refine zT.chk (t := (57, [some (zR 18 0), some (zI x1), some (zI 0), some (zI r2)], [zI (M4.1 24 0 0), zI 0, zR 25 0], M4, cl4)) rfl (by first | decide | (dsimp only; decide)) ?_
      refine zT.it 3 (t := (70, [some (zR 18 0), some (zI x1), some (zI 0), some (zI r2)], [zI ((M4.1 24 0 0) + r2), zI 0, zR 25 0], M4, cl4)) rfl ?_
      refine zT.chk (t := (71, [some (zR 18 0), some (zI x1), some (zI 0), some (zI r2)], [], (z_w M4 25 0 0 ((M4.1 24 0 0) + r2)), false)) rfl (by first | decide | (dsimp only; decide)) ?_
      refine zT.it 1 (t := (72, [some (zR 18 0), some (zI x1), some (zI 0), some (zI r2)], [zI x1], (z_w M4 25 0 0 ((M4.1 24 0 0) + r2)), false)) rfl ?_
      refine zT.br (g := zr x1) (p := x1 = 0) (t := (143, [some (zR 18 0), some (zI x1), some (zI 0), some (zI r2)], [], (z_w M4 25 0 0 ((M4.1 24 0 0) + r2)), false)) (u := (75, [some (zR 18 0), some (zI x1), some (zI 0), some (zI r2)], [], (z_w M4 25 0 0 ((M4.1 24 0 0) + r2)), false)) rfl h.1 (fun c => ?_) (fun c => ?_)
      · replace h := h.2.1 c
        refine zT.it 1 (t := (144, [some (zR 18 0), some (zI x1), some (zI 0), some (zI r2)], [zI 0], (z_w M4 25 0 0 ((M4.1 24 0 0) + r2)), false)) rfl ?_
        exact h
      · replace h := h.2.2 c
        refine zT.it 3 (t := (80, [some (zR 18 0), some (zI x1), some (zI 0), some (zI r2)], [zI 0, zR 25 0], (z_w M4 25 0 0 ((M4.1 24 0 0) + r2)), false)) rfl ?_
        refine zT.chk (t := (81, [some (zR 18 0), some (zI x1), some (zI 0), some (zI r2)], [zI ((M4.1 24 0 0) + r2)], (z_w M4 25 0 0 ((M4.1 24 0 0) + r2)), false)) rfl (by first | decide | (dsimp only; decide)) ?_
        refine zT.it 2 (t := (83, [some (zR 18 0), some (zI x1), some (zI 0), some (zI r2)], [zI 2, zI 0, zI ((M4.1 24 0 0) + r2)], (z_w M4 25 0 0 ((M4.1 24 0 0) + r2)), false)) rfl ?_
        refine zT.br (g := zr 0 ∧ zr 2) (p := ¬ 0 = 2) (t := (91, [some (zR 18 0), some (zI x1), some (zI 0), some (zI r2)], [zI ((M4.1 24 0 0) + r2)], (z_w M4 25 0 0 ((M4.1 24 0 0) + r2)), false)) (u := (86, [some (zR 18 0), some (zI x1), some (zI 0), some (zI r2)], [zI ((M4.1 24 0 0) + r2)], (z_w M4 25 0 0 ((M4.1 24 0 0) + r2)), false)) rfl (by decide) (fun c => ?_) (fun c => absurd (by decide) c)
        refine zT.it 1 (t := (92, [some (zR 18 0), some (zI x1), some (zI 0), some (zI r2)], [zI 0, zI ((M4.1 24 0 0) + r2)], (z_w M4 25 0 0 ((M4.1 24 0 0) + r2)), false)) rfl ?_
        refine zT.br (g := zr ((M4.1 24 0 0) + r2) ∧ zr 0) (p := ((M4.1 24 0 0) + r2) < 0) (t := (143, [some (zR 18 0), some (zI x1), some (zI 0), some (zI r2)], [], (z_w M4 25 0 0 ((M4.1 24 0 0) + r2)), false)) (u := (95, [some (zR 18 0), some (zI x1), some (zI 0), some (zI r2)], [], (z_w M4 25 0 0 ((M4.1 24 0 0) + r2)), false)) rfl h.1 (fun c => ?_) (fun c => ?_)
        · replace h := h.2.1 c
          refine zT.it 1 (t := (144, [some (zR 18 0), some (zI x1), some (zI 0), some (zI r2)], [zI 0], (z_w M4 25 0 0 ((M4.1 24 0 0) + r2)), false)) rfl ?_
          exact h
        · replace h := h.2.2 c
          refine zT.it 3 (t := (100, [some (zR 18 0), some (zI x1), some (zI 0), some (zI r2)], [zI 0, zR 25 0], (z_w M4 25 0 0 ((M4.1 24 0 0) + r2)), false)) rfl ?_
          refine zT.chk (t := (101, [some (zR 18 0), some (zI x1), some (zI 0), some (zI r2)], [zI ((M4.1 24 0 0) + r2)], (z_w M4 25 0 0 ((M4.1 24 0 0) + r2)), false)) rfl (by first | decide | (dsimp only; decide)) ?_
          refine zT.it 2 (t := (103, [some (zR 18 0), some (zI x1), some (zI 0), some (zI r2)], [zI 2, zI 0, zI ((M4.1 24 0 0) + r2)], (z_w M4 25 0 0 ((M4.1 24 0 0) + r2)), false)) rfl ?_
          refine zT.br (g := zr 0 ∧ zr 2) (p := ¬ 0 = 2) (t := (111, [some (zR 18 0), some (zI x1), some (zI 0), some (zI r2)], [zI ((M4.1 24 0 0) + r2)], (z_w M4 25 0 0 ((M4.1 24 0 0) + r2)), false)) (u := (106, [some (zR 18 0), some (zI x1), some (zI 0), some (zI r2)], [zI ((M4.1 24 0 0) + r2)], (z_w M4 25 0 0 ((M4.1 24 0 0) + r2)), false)) rfl (by decide) (fun c => ?_) (fun c => absurd (by decide) c)
          refine zT.it 1 (t := (114, [some (zR 18 0), some (zI x1), some (zI 0), some (zI r2)], [zI 999, zI ((M4.1 24 0 0) + r2)], (z_w M4 25 0 0 ((M4.1 24 0 0) + r2)), false)) rfl ?_
          refine zT.br (g := zr ((M4.1 24 0 0) + r2) ∧ zr 999) (p := 999 < ((M4.1 24 0 0) + r2)) (t := (143, [some (zR 18 0), some (zI x1), some (zI 0), some (zI r2)], [], (z_w M4 25 0 0 ((M4.1 24 0 0) + r2)), false)) (u := (117, [some (zR 18 0), some (zI x1), some (zI 0), some (zI r2)], [], (z_w M4 25 0 0 ((M4.1 24 0 0) + r2)), false)) rfl h.1 (fun c => ?_) (fun c => ?_)
          · replace h := h.2.1 c
            refine zT.it 1 (t := (144, [some (zR 18 0), some (zI x1), some (zI 0), some (zI r2)], [zI 0], (z_w M4 25 0 0 ((M4.1 24 0 0) + r2)), false)) rfl ?_
            exact h
          · replace h := h.2.2 c
            refine zT.it 3 (t := (122, [some (zR 18 0), some (zI x1), some (zI 0), some (zI r2)], [zI 0, zR 25 0], (z_w M4 25 0 0 ((M4.1 24 0 0) + r2)), false)) rfl ?_
            refine zT.chk (t := (123, [some (zR 18 0), some (zI x1), some (zI 0), some (zI r2)], [zI ((M4.1 24 0 0) + r2)], (z_w M4 25 0 0 ((M4.1 24 0 0) + r2)), false)) rfl (by first | decide | (dsimp only; decide)) ?_
            refine zT.it 3 (t := (128, [some (zR 18 0), some (zI x1), some (zI 0), some (zI r2)], [zI 0, zR 24 0, zI ((M4.1 24 0 0) + r2)], (z_w M4 25 0 0 ((M4.1 24 0 0) + r2)), false)) rfl ?_
            refine zT.chk (t := (129, [some (zR 18 0), some (zI x1), some (zI 0), some (zI r2)], [zI (M4.1 24 0 0), zI ((M4.1 24 0 0) + r2)], (z_w M4 25 0 0 ((M4.1 24 0 0) + r2)), false)) rfl (by first | decide | (dsimp only; decide)) ?_
            refine zT.it 1 (t := (130, [some (zR 18 0), some (zI x1), some (zI 0), some (zI r2)], [zI (((M4.1 24 0 0) + r2) - (M4.1 24 0 0))], (z_w M4 25 0 0 ((M4.1 24 0 0) + r2)), false)) rfl ?_
            refine zT.call (m := 59) (as := [zI (((M4.1 24 0 0) + r2) - (M4.1 24 0 0))]) (M := (z_w M4 25 0 0 ((M4.1 24 0 0) + r2))) (L := [some (zR 18 0), some (zI x1), some (zI 0), some (zI r2)]) (st := []) (pn := 133) (cl := false) rfl ?_
            refine zF.mono h (fun v M6 h cl6 => ?_)
            obtain ⟨r6, e6, h⟩ := h; subst e6; replace h := h cl6
            show zT 60 (133, [some (zR 18 0), some (zI x1), some (zI 0), some (zI r2)], [zI r6], M6, cl6) _
            refine zT.it 1 (t := (136, [some (zR 18 0), some (zI x1), some (zI 0), some (zI r2)], [zI 500, zI r6], M6, cl6)) rfl ?_
            refine zT.br (g := zr r6 ∧ zr 500) (p := 500 < r6) (t := (143, [some (zR 18 0), some (zI x1), some (zI 0), some (zI r2)], [], M6, cl6)) (u := (139, [some (zR 18 0), some (zI x1), some (zI 0), some (zI r2)], [], M6, cl6)) rfl h.1 (fun c => ?_) (fun c => ?_)
            · replace h := h.2.1 c
              refine zT.it 1 (t := (144, [some (zR 18 0), some (zI x1), some (zI 0), some (zI r2)], [zI 0], M6, cl6)) rfl ?_
              exact h
            · replace h := h.2.2 c
              refine zT.it 2 (t := (144, [some (zR 18 0), some (zI x1), some (zI 0), some (zI r2)], [zI 1], M6, cl6)) rfl ?_
              exact h
  · replace h := h.2.2 (Decidable.not_not.1 c)
    refine zT.it 3 (t := (40, [some (zR 18 0), some (zI x1), some (zI 0), some (zI r2)], [zI 0, zR 24 0, zI 0, zR 25 0], M4, cl4)) rfl ?_
    refine zT.chk (t := (41, [some (zR 18 0), some (zI x1), some (zI 0), some (zI r2)], [zI (M4.1 24 0 0), zI 0, zR 25 0], M4, cl4)) rfl (by first | decide | (dsimp only; decide)) ?_
    refine zT.it 1 (t := (70, [some (zR 18 0), some (zI x1), some (zI 0), some (zI r2)], [zI (M4.1 24 0 0), zI 0, zR 25 0], M4, cl4)) rfl ?_
    refine zT.chk (t := (71, [some (zR 18 0), some (zI x1), some (zI 0), some (zI r2)], [], (z_w M4 25 0 0 (M4.1 24 0 0)), false)) rfl (by first | decide | (dsimp only; decide)) ?_
    refine zT.it 1 (t := (72, [some (zR 18 0), some (zI x1), some (zI 0), some (zI r2)], [zI x1], (z_w M4 25 0 0 (M4.1 24 0 0)), false)) rfl ?_
    refine zT.br (g := zr x1) (p := x1 = 0) (t := (143, [some (zR 18 0), some (zI x1), some (zI 0), some (zI r2)], [], (z_w M4 25 0 0 (M4.1 24 0 0)), false)) (u := (75, [some (zR 18 0), some (zI x1), some (zI 0), some (zI r2)], [], (z_w M4 25 0 0 (M4.1 24 0 0)), false)) rfl h.1 (fun c => ?_) (fun c => ?_)
    · replace h := h.2.1 c
      refine zT.it 1 (t := (144, [some (zR 18 0), some (zI x1), some (zI 0), some (zI r2)], [zI 0], (z_w M4 25 0 0 (M4.1 24 0 0)), false)) rfl ?_
      exact h
    · replace h := h.2.2 c
      refine zT.it 3 (t := (80, [some (zR 18 0), some (zI x1), some (zI 0), some (zI r2)], [zI 0, zR 25 0], (z_w M4 25 0 0 (M4.1 24 0 0)), false)) rfl ?_
      refine zT.chk (t := (81, [some (zR 18 0), some (zI x1), some (zI 0), some (zI r2)], [zI (M4.1 24 0 0)], (z_w M4 25 0 0 (M4.1 24 0 0)), false)) rfl (by first | decide | (dsimp only; decide)) ?_
      refine zT.it 2 (t := (83, [some (zR 18 0), some (zI x1), some (zI 0), some (zI r2)], [zI 2, zI 0, zI (M4.1 24 0 0)], (z_w M4 25 0 0 (M4.1 24 0 0)), false)) rfl ?_
      refine zT.br (g := zr 0 ∧ zr 2) (p := ¬ 0 = 2) (t := (91, [some (zR 18 0), some (zI x1), some (zI 0), some (zI r2)], [zI (M4.1 24 0 0)], (z_w M4 25 0 0 (M4.1 24 0 0)), false)) (u := (86, [some (zR 18 0), some (zI x1), some (zI 0), some (zI r2)], [zI (M4.1 24 0 0)], (z_w M4 25 0 0 (M4.1 24 0 0)), false)) rfl (by decide) (fun c => ?_) (fun c => absurd (by decide) c)
      refine zT.it 1 (t := (92, [some (zR 18 0), some (zI x1), some (zI 0), some (zI r2)], [zI 0, zI (M4.1 24 0 0)], (z_w M4 25 0 0 (M4.1 24 0 0)), false)) rfl ?_
      refine zT.br (g := zr (M4.1 24 0 0) ∧ zr 0) (p := (M4.1 24 0 0) < 0) (t := (143, [some (zR 18 0), some (zI x1), some (zI 0), some (zI r2)], [], (z_w M4 25 0 0 (M4.1 24 0 0)), false)) (u := (95, [some (zR 18 0), some (zI x1), some (zI 0), some (zI r2)], [], (z_w M4 25 0 0 (M4.1 24 0 0)), false)) rfl h.1 (fun c => ?_) (fun c => ?_)
      · replace h := h.2.1 c
        refine zT.it 1 (t := (144, [some (zR 18 0), some (zI x1), some (zI 0), some (zI r2)], [zI 0], (z_w M4 25 0 0 (M4.1 24 0 0)), false)) rfl ?_
        exact h
      · replace h := h.2.2 c
        refine zT.it 3 (t := (100, [some (zR 18 0), some (zI x1), some (zI 0), some (zI r2)], [zI 0, zR 25 0], (z_w M4 25 0 0 (M4.1 24 0 0)), false)) rfl ?_
        refine zT.chk (t := (101, [some (zR 18 0), some (zI x1), some (zI 0), some (zI r2)], [zI (M4.1 24 0 0)], (z_w M4 25 0 0 (M4.1 24 0 0)), false)) rfl (by first | decide | (dsimp only; decide)) ?_
        refine zT.it 2 (t := (103, [some (zR 18 0), some (zI x1), some (zI 0), some (zI r2)], [zI 2, zI 0, zI (M4.1 24 0 0)], (z_w M4 25 0 0 (M4.1 24 0 0)), false)) rfl ?_
        refine zT.br (g := zr 0 ∧ zr 2) (p := ¬ 0 = 2) (t := (111, [some (zR 18 0), some (zI x1), some (zI 0), some (zI r2)], [zI (M4.1 24 0 0)], (z_w M4 25 0 0 (M4.1 24 0 0)), false)) (u := (106, [some (zR 18 0), some (zI x1), some (zI 0), some (zI r2)], [zI (M4.1 24 0 0)], (z_w M4 25 0 0 (M4.1 24 0 0)), false)) rfl (by decide) (fun c => ?_) (fun c => absurd (by decide) c)
        refine zT.it 1 (t := (114, [some (zR 18 0), some (zI x1), some (zI 0), some (zI r2)], [zI 999, zI (M4.1 24 0 0)], (z_w M4 25 0 0 (M4.1 24 0 0)), false)) rfl ?_
        refine zT.br (g := zr (M4.1 24 0 0) ∧ zr 999) (p := 999 < (M4.1 24 0 0)) (t := (143, [some (zR 18 0), some (zI x1), some (zI 0), some (zI r2)], [], (z_w M4 25 0 0 (M4.1 24 0 0)), false)) (u := (117, [some (zR 18 0), some (zI x1), some (zI 0), some (zI r2)], [], (z_w M4 25 0 0 (M4.1 24 0 0)), false)) rfl h.1 (fun c => ?_) (fun c => ?_)
        · replace h := h.2.1 c
          refine zT.it 1 (t := (144, [some (zR 18 0), some (zI x1), some (zI 0), some (zI r2)], [zI 0], (z_w M4 25 0 0 (M4.1 24 0 0)), false)) rfl ?_
          exact h
        · replace h := h.2.2 c
          refine zT.it 3 (t := (122, [some (zR 18 0), some (zI x1), some (zI 0), some (zI r2)], [zI 0, zR 25 0], (z_w M4 25 0 0 (M4.1 24 0 0)), false)) rfl ?_
          refine zT.chk (t := (123, [some (zR 18 0), some (zI x1), some (zI 0), some (zI r2)], [zI (M4.1 24 0 0)], (z_w M4 25 0 0 (M4.1 24 0 0)), false)) rfl (by first | decide | (dsimp only; decide)) ?_
          refine zT.it 3 (t := (128, [some (zR 18 0), some (zI x1), some (zI 0), some (zI r2)], [zI 0, zR 24 0, zI (M4.1 24 0 0)], (z_w M4 25 0 0 (M4.1 24 0 0)), false)) rfl ?_
          refine zT.chk (t := (129, [some (zR 18 0), some (zI x1), some (zI 0), some (zI r2)], [zI (M4.1 24 0 0), zI (M4.1 24 0 0)], (z_w M4 25 0 0 (M4.1 24 0 0)), false)) rfl (by first | decide | (dsimp only; decide)) ?_
          refine zT.it 1 (t := (130, [some (zR 18 0), some (zI x1), some (zI 0), some (zI r2)], [zI ((M4.1 24 0 0) - (M4.1 24 0 0))], (z_w M4 25 0 0 (M4.1 24 0 0)), false)) rfl ?_
          refine zT.call (m := 59) (as := [zI ((M4.1 24 0 0) - (M4.1 24 0 0))]) (M := (z_w M4 25 0 0 (M4.1 24 0 0))) (L := [some (zR 18 0), some (zI x1), some (zI 0), some (zI r2)]) (st := []) (pn := 133) (cl := false) rfl ?_
          refine zF.mono h (fun v M7 h cl7 => ?_)
          obtain ⟨r7, e7, h⟩ := h; subst e7; replace h := h cl7
          show zT 60 (133, [some (zR 18 0), some (zI x1), some (zI 0), some (zI r2)], [zI r7], M7, cl7) _
          refine zT.it 1 (t := (136, [some (zR 18 0), some (zI x1), some (zI 0), some (zI r2)], [zI 500, zI r7], M7, cl7)) rfl ?_
          refine zT.br (g := zr r7 ∧ zr 500) (p := 500 < r7) (t := (143, [some (zR 18 0), some (zI x1), some (zI 0), some (zI r2)], [], M7, cl7)) (u := (139, [some (zR 18 0), some (zI x1), some (zI 0), some (zI r2)], [], M7, cl7)) rfl h.1 (fun c => ?_) (fun c => ?_)
          · replace h := h.2.1 c
            refine zT.it 1 (t := (144, [some (zR 18 0), some (zI x1), some (zI 0), some (zI r2)], [zI 0], M7, cl7)) rfl ?_
            exact h
          · replace h := h.2.2 c
            refine zT.it 2 (t := (144, [some (zR 18 0), some (zI x1), some (zI 0), some (zI r2)], [zI 1], M7, cl7)) rfl ?_
            exact h
theorem g60_4a1 {x1 : Int} {u3 : Option zV} {M : zM} {cl : Bool} {Q : zQ} (h : zF 58 [zI 1] M (fun v M8 => ∃ r8 : Int, v = some (zI r8) ∧ ∀ cl8 : Bool, zF 56 [zR 18 0, zI r8, zI 0] M8 (fun v M9 => ∃ r9 : Int, v = some (zI r9) ∧ ∀ cl9 : Bool, zF 58 [zI 1] M9 (fun v M10 => ∃ r10 : Int, v = some (zI r10) ∧ ∀ cl10 : Bool, zF 55 [zR 18 0, zI r10] M10 (fun v M11 => ∃ r11 : Int, v = some (zI r11) ∧ ∀ cl11 : Bool, (zr r11) ∧ ((¬ r11 = 0 → (zr (M11.1 18 0 9)) ∧ (((M11.1 18 0 9) = 0 → (zr x1) ∧ ((x1 = 0 → zT 60 (144, [some (zR 18 0), some (zI x1), some (zI 1), some (zI r9)], [zI 0], (z_w M11 25 0 1 ((M11.1 22 0 1) + r9)), false) Q) ∧ (¬ (x1 = 0) → (zr ((M11.1 22 0 1) + r9) ∧ zr 0) ∧ ((((M11.1 22 0 1) + r9) < 0 → zT 60 (144, [some (zR 18 0), some (zI x1), some (zI 1), some (zI r9)], [zI 0], (z_w M11 25 0 1 ((M11.1 22 0 1) + r9)), false) Q) ∧ (¬ (((M11.1 22 0 1) + r9) < 0) → (zr ((M11.1 22 0 1) + r9) ∧ zr 999) ∧ ((999 < ((M11.1 22 0 1) + r9) → zT 60 (144, [some (zR 18 0), some (zI x1), some (zI 1), some (zI r9)], [zI 0], (z_w M11 25 0 1 ((M11.1 22 0 1) + r9)), false) Q) ∧ (¬ (999 < ((M11.1 22 0 1) + r9)) → zF 59 [zI (((M11.1 22 0 1) + r9) - (M11.1 24 0 1))] (z_w M11 25 0 1 ((M11.1 22 0 1) + r9)) (fun v M12 => ∃ r12 : Int, v = some (zI r12) ∧ ∀ cl12 : Bool, (zr r12 ∧ zr 500) ∧ ((500 < r12 → zT 60 (144, [some (zR 18 0), some (zI x1), some (zI 1), some (zI r9)], [zI 0], M12, cl12) Q) ∧ (¬ (500 < r12) → zT 60 (144, [some (zR 18 0), some (zI x1), some (zI 1), some (zI r9)], [zI 1], M12, cl12) Q)))))))))) ∧ (¬ ((M11.1 18 0 9) = 0) → (zr x1) ∧ ((x1 = 0 → zT 60 (144, [some (zR 18 0), some (zI x1), some (zI 1), some (zI r9)], [zI 0], (z_w M11 25 0 1 ((M11.1 24 0 1) + r9)), false) Q) ∧ (¬ (x1 = 0) → (zr ((M11.1 24 0 1) + r9) ∧ zr 0) ∧ ((((M11.1 24 0 1) + r9) < 0 → zT 60 (144, [some (zR 18 0), some (zI x1), some (zI 1), some (zI r9)], [zI 0], (z_w M11 25 0 1 ((M11.1 24 0 1) + r9)), false) Q) ∧ (¬ (((M11.1 24 0 1) + r9) < 0) → (zr ((M11.1 24 0 1) + r9) ∧ zr 999) ∧ ((999 < ((M11.1 24 0 1) + r9) → zT 60 (144, [some (zR 18 0), some (zI x1), some (zI 1), some (zI r9)], [zI 0], (z_w M11 25 0 1 ((M11.1 24 0 1) + r9)), false) Q) ∧ (¬ (999 < ((M11.1 24 0 1) + r9)) → zF 59 [zI (((M11.1 24 0 1) + r9) - (M11.1 24 0 1))] (z_w M11 25 0 1 ((M11.1 24 0 1) + r9)) (fun v M13 => ∃ r13 : Int, v = some (zI r13) ∧ ∀ cl13 : Bool, (zr r13 ∧ zr 500) ∧ ((500 < r13 → zT 60 (144, [some (zR 18 0), some (zI x1), some (zI 1), some (zI r9)], [zI 0], M13, cl13) Q) ∧ (¬ (500 < r13) → zT 60 (144, [some (zR 18 0), some (zI x1), some (zI 1), some (zI r9)], [zI 1], M13, cl13) Q)))))))))))) ∧ (r11 = 0 → (zr x1) ∧ ((x1 = 0 → zT 60 (144, [some (zR 18 0), some (zI x1), some (zI 1), some (zI r9)], [zI 0], (z_w M11 25 0 1 (M11.1 24 0 1)), false) Q) ∧ (¬ (x1 = 0) → (zr (M11.1 24 0 1) ∧ zr 0) ∧ (((M11.1 24 0 1) < 0 → zT 60 (144, [some (zR 18 0), some (zI x1), some (zI 1), some (zI r9)], [zI 0], (z_w M11 25 0 1 (M11.1 24 0 1)), false) Q) ∧ (¬ ((M11.1 24 0 1) < 0) → (zr (M11.1 24 0 1) ∧ zr 999) ∧ ((999 < (M11.1 24 0 1) → zT 60 (144, [some (zR 18 0), some (zI x1), some (zI 1), some (zI r9)], [zI 0], (z_w M11 25 0 1 (M11.1 24 0 1)), false) Q) ∧ (¬ (999 < (M11.1 24 0 1)) → zF 59 [zI ((M11.1 24 0 1) - (M11.1 24 0 1))] (z_w M11 25 0 1 (M11.1 24 0 1)) (fun v M14 => ∃ r14 : Int, v = some (zI r14) ∧ ∀ cl14 : Bool, (zr r14 ∧ zr 500) ∧ ((500 < r14 → zT 60 (144, [some (zR 18 0), some (zI x1), some (zI 1), some (zI r9)], [zI 0], M14, cl14) Q) ∧ (¬ (500 < r14) → zT 60 (144, [some (zR 18 0), some (zI x1), some (zI 1), some (zI r9)], [zI 1], M14, cl14) Q)))))))))))))))) : zT 60 (4, [some (zR 18 0), some (zI x1), some (zI 1), u3], [], M, cl) Q := by
  refine zT.it 2 (t := (6, [some (zR 18 0), some (zI x1), some (zI 1), u3], [zI 3, zI 1], M, cl)) rfl ?_
  refine zT.br (g := zr 1 ∧ zr 3) (p := 3 ≤ 1) (t := (151, [some (zR 18 0), some (zI x1), some (zI 1), u3], [], M, cl)) (u := (9, [some (zR 18 0), some (zI x1), some (zI 1), u3], [], M, cl)) rfl (by decide) (fun c => absurd c (by decide)) (fun c => ?_)
  refine zT.it 2 (t := (11, [some (zR 18 0), some (zI x1), some (zI 1), u3], [zI 1, zR 18 0], M, cl)) rfl ?_
  refine zT.call (m := 58) (as := [zI 1]) (M := M) (L := [some (zR 18 0), some (zI x1), some (zI 1), u3]) (st := [zR 18 0]) (pn := 14) (cl := cl) rfl ?_
  refine zF.mono h (fun v M8 h cl8 => ?_)
  obtain ⟨r8, e8, h⟩ := h; subst e8; replace h := h cl8
  show zT 60 (14, [some (zR 18 0), some (zI x1), some (zI 1), u3], [zI r8, zR 18 0], M8, cl8) _
  refine zT.it 1 (t := (15, [some (zR 18 0), some (zI x1), some (zI 1), u3], [zI 0, zI r8, zR 18 0], M8, cl8)) rfl ?_
  refine zT.call (m := 56) (as := [zR 18 0, zI r8, zI 0]) (M := M8) (L := [some (zR 18 0), some (zI x1), some (zI 1), u3]) (st := []) (pn := 18) (cl := cl8) rfl ?_
  refine zF.mono h (fun v M9 h cl9 => ?_)
  obtain ⟨r9, e9, h⟩ := h; subst e9; replace h := h cl9
  show zT 60 (18, [some (zR 18 0), some (zI x1), some (zI 1), u3], [zI r9], M9, cl9) _
  refine zT.it 6 (t := (26, [some (zR 18 0), some (zI x1), some (zI 1), some (zI r9)], [zI 1, zR 18 0, zI 1, zR 25 0], M9, cl9)) rfl ?_
  refine zT.call (m := 58) (as := [zI 1]) (M := M9) (L := [some (zR 18 0), some (zI x1), some (zI 1), some (zI r9)]) (st := [zR 18 0, zI 1, zR 25 0]) (pn := 29) (cl := cl9) rfl ?_
  refine zF.mono h (fun v M10 h cl10 => ?_)
  obtain ⟨r10, e10, h⟩ := h; subst e10; replace h := h cl10
  show zT 60 (29, [some (zR 18 0), some (zI x1), some (zI 1), some (zI r9)], [zI r10, zR 18 0, zI 1, zR 25 0], M10, cl10) _
  refine zT.call (m := 55) (as := [zR 18 0, zI r10]) (M := M10) (L := [some (zR 18 0), some (zI x1), some (zI 1), some (zI r9)]) (st := [zI 1, zR 25 0]) (pn := 32) (cl := cl10) rfl ?_
  refine zF.mono h (fun v M11 h cl11 => ?_)
  obtain ⟨r11, e11, h⟩ := h; subst e11; replace h := h cl11
  show zT 60 (32, [some (zR 18 0), some (zI x1), some (zI 1), some (zI r9)], [zI r11, zI 1, zR 25 0], M11, cl11) _
  refine zT.br (g := zr r11) (p := ¬ r11 = 0) (t := (44, [some (zR 18 0), some (zI x1), some (zI 1), some (zI r9)], [zI 1, zR 25 0], M11, cl11)) (u := (35, [some (zR 18 0), some (zI x1), some (zI 1), some (zI r9)], [zI 1, zR 25 0], M11, cl11)) rfl h.1 (fun c => ?_) (fun c => ?_)
  · replace h := h.2.1 c
    refine zT.it 2 (t := (48, [some (zR 18 0), some (zI x1), some (zI 1), some (zI r9)], [zI (M11.1 18 0 9), zI 1, zR 25 0], M11, cl11)) rfl ?_
    refine zT.br (g := zr (M11.1 18 0 9)) (p := (M11.1 18 0 9) = 0) (t := (62, [some (zR 18 0), some (zI x1), some (zI 1), some (zI r9)], [zI 1, zR 25 0], M11, cl11)) (u := (51, [some (zR 18 0), some (zI x1), some (zI 1), some (zI r9)], [zI 1, zR 25 0], M11, cl11)) rfl h.1 (fun c => ?_) (fun c => ?_)
    · replace h := h.2.1 c
      refine zT.it 3 (t := (67, [some (zR 18 0), some (zI x1), some (zI 1), some (zI r9)], [zI 1, zR 22 0, zI 1, zR 25 0], M11, cl11)) rfl ?_
      refine zT.chk (t := (68, [some (zR 18 0), some (zI x1), some (zI 1), some (zI r9)], [zI (M11.1 22 0 1), zI 1, zR 25 0], M11, cl11)) rfl (by first | decide | (dsimp only; decide)) ?_
      refine zT.it 2 (t := (70, [some (zR 18 0), some (zI x1), some (zI 1), some (zI r9)], [zI ((M11.1 22 0 1) + r9), zI 1, zR 25 0], M11, cl11)) rfl ?_
      refine zT.chk (t := (71, [some (zR 18 0), some (zI x1), some (zI 1), some (zI r9)], [], (z_w M11 25 0 1 ((M11.1 22 0 1) + r9)), false)) rfl (by first | decide | (dsimp only; decide)) ?_
      refine zT.it 1 (t := (72, [some (zR 18 0), some (zI x1), some (zI 1), some (zI r9)], [zI x1], (z_w M11 25 0 1 ((M11.1 22 0 1) + r9)), false)) rfl ?_
      refine zT.br (g := zr x1) (p := x1 = 0) (t := (143, [some (zR 18 0), some (zI x1), some (zI 1), some (zI r9)], [], (z_w M11 25 0 1 ((M11.1 22 0 1) + r9)), false)) (u := (75, [some (zR 18 0), some (zI x1), some (zI 1), some (zI r9)], [], (z_w M11 25 0 1 ((M11.1 22 0 1) + r9)), false)) rfl h.1 (fun c => ?_) (fun c => ?_)
      · replace h := h.2.1 c
        refine zT.it 1 (t := (144, [some (zR 18 0), some (zI x1), some (zI 1), some (zI r9)], [zI 0], (z_w M11 25 0 1 ((M11.1 22 0 1) + r9)), false)) rfl ?_
        exact h
      · replace h := h.2.2 c
        refine zT.it 3 (t := (80, [some (zR 18 0), some (zI x1), some (zI 1), some (zI r9)], [zI 1, zR 25 0], (z_w M11 25 0 1 ((M11.1 22 0 1) + r9)), false)) rfl ?_
        refine zT.chk (t := (81, [some (zR 18 0), some (zI x1), some (zI 1), some (zI r9)], [zI ((M11.1 22 0 1) + r9)], (z_w M11 25 0 1 ((M11.1 22 0 1) + r9)), false)) rfl (by first | decide | (dsimp only; decide)) ?_
        refine zT.it 2 (t := (83, [some (zR 18 0), some (zI x1), some (zI 1), some (zI r9)], [zI 2, zI 1, zI ((M11.1 22 0 1) + r9)], (z_w M11 25 0 1 ((M11.1 22 0 1) + r9)), false)) rfl ?_
        refine zT.br (g := zr 1 ∧ zr 2) (p := ¬ 1 = 2) (t := (91, [some (zR 18 0), some (zI x1), some (zI 1), some (zI r9)], [zI ((M11.1 22 0 1) + r9)], (z_w M11 25 0 1 ((M11.1 22 0 1) + r9)), false)) (u := (86, [some (zR 18 0), some (zI x1), some (zI 1), some (zI r9)], [zI ((M11.1 22 0 1) + r9)], (z_w M11 25 0 1 ((M11.1 22 0 1) + r9)), false)) rfl (by decide) (fun c => ?_) (fun c => absurd (by decide) c)
        refine zT.it 1 (t := (92, [some (zR 18 0), some (zI x1), some (zI 1), some (zI r9)], [zI 0, zI ((M11.1 22 0 1) + r9)], (z_w M11 25 0 1 ((M11.1 22 0 1) + r9)), false)) rfl ?_
        refine zT.br (g := zr ((M11.1 22 0 1) + r9) ∧ zr 0) (p := ((M11.1 22 0 1) + r9) < 0) (t := (143, [some (zR 18 0), some (zI x1), some (zI 1), some (zI r9)], [], (z_w M11 25 0 1 ((M11.1 22 0 1) + r9)), false)) (u := (95, [some (zR 18 0), some (zI x1), some (zI 1), some (zI r9)], [], (z_w M11 25 0 1 ((M11.1 22 0 1) + r9)), false)) rfl h.1 (fun c => ?_) (fun c => ?_)
        · replace h := h.2.1 c
          refine zT.it 1 (t := (144, [some (zR 18 0), some (zI x1), some (zI 1), some (zI r9)], [zI 0], (z_w M11 25 0 1 ((M11.1 22 0 1) + r9)), false)) rfl ?_
          exact h
        · replace h := h.2.2 c
          refine zT.it 3 (t := (100, [some (zR 18 0), some (zI x1), some (zI 1), some (zI r9)], [zI 1, zR 25 0], (z_w M11 25 0 1 ((M11.1 22 0 1) + r9)), false)) rfl ?_
          refine zT.chk (t := (101, [some (zR 18 0), some (zI x1), some (zI 1), some (zI r9)], [zI ((M11.1 22 0 1) + r9)], (z_w M11 25 0 1 ((M11.1 22 0 1) + r9)), false)) rfl (by first | decide | (dsimp only; decide)) ?_
          refine zT.it 2 (t := (103, [some (zR 18 0), some (zI x1), some (zI 1), some (zI r9)], [zI 2, zI 1, zI ((M11.1 22 0 1) + r9)], (z_w M11 25 0 1 ((M11.1 22 0 1) + r9)), false)) rfl ?_
          refine zT.br (g := zr 1 ∧ zr 2) (p := ¬ 1 = 2) (t := (111, [some (zR 18 0), some (zI x1), some (zI 1), some (zI r9)], [zI ((M11.1 22 0 1) + r9)], (z_w M11 25 0 1 ((M11.1 22 0 1) + r9)), false)) (u := (106, [some (zR 18 0), some (zI x1), some (zI 1), some (zI r9)], [zI ((M11.1 22 0 1) + r9)], (z_w M11 25 0 1 ((M11.1 22 0 1) + r9)), false)) rfl (by decide) (fun c => ?_) (fun c => absurd (by decide) c)
          refine zT.it 1 (t := (114, [some (zR 18 0), some (zI x1), some (zI 1), some (zI r9)], [zI 999, zI ((M11.1 22 0 1) + r9)], (z_w M11 25 0 1 ((M11.1 22 0 1) + r9)), false)) rfl ?_
          refine zT.br (g := zr ((M11.1 22 0 1) + r9) ∧ zr 999) (p := 999 < ((M11.1 22 0 1) + r9)) (t := (143, [some (zR 18 0), some (zI x1), some (zI 1), some (zI r9)], [], (z_w M11 25 0 1 ((M11.1 22 0 1) + r9)), false)) (u := (117, [some (zR 18 0), some (zI x1), some (zI 1), some (zI r9)], [], (z_w M11 25 0 1 ((M11.1 22 0 1) + r9)), false)) rfl h.1 (fun c => ?_) (fun c => ?_)
          · replace h := h.2.1 c
            refine zT.it 1 (t := (144, [some (zR 18 0), some (zI x1), some (zI 1), some (zI r9)], [zI 0], (z_w M11 25 0 1 ((M11.1 22 0 1) + r9)), false)) rfl ?_
            exact h
          · replace h := h.2.2 c
            refine zT.it 3 (t := (122, [some (zR 18 0), some (zI x1), some (zI 1), some (zI r9)], [zI 1, zR 25 0], (z_w M11 25 0 1 ((M11.1 22 0 1) + r9)), false)) rfl ?_
            refine zT.chk (t := (123, [some (zR 18 0), some (zI x1), some (zI 1), some (zI r9)], [zI ((M11.1 22 0 1) + r9)], (z_w M11 25 0 1 ((M11.1 22 0 1) + r9)), false)) rfl (by first | decide | (dsimp only; decide)) ?_
            refine zT.it 3 (t := (128, [some (zR 18 0), some (zI x1), some (zI 1), some (zI r9)], [zI 1, zR 24 0, zI ((M11.1 22 0 1) + r9)], (z_w M11 25 0 1 ((M11.1 22 0 1) + r9)), false)) rfl ?_
            refine zT.chk (t := (129, [some (zR 18 0), some (zI x1), some (zI 1), some (zI r9)], [zI (M11.1 24 0 1), zI ((M11.1 22 0 1) + r9)], (z_w M11 25 0 1 ((M11.1 22 0 1) + r9)), false)) rfl (by first | decide | (dsimp only; decide)) ?_
            refine zT.it 1 (t := (130, [some (zR 18 0), some (zI x1), some (zI 1), some (zI r9)], [zI (((M11.1 22 0 1) + r9) - (M11.1 24 0 1))], (z_w M11 25 0 1 ((M11.1 22 0 1) + r9)), false)) rfl ?_
            refine zT.call (m := 59) (as := [zI (((M11.1 22 0 1) + r9) - (M11.1 24 0 1))]) (M := (z_w M11 25 0 1 ((M11.1 22 0 1) + r9))) (L := [some (zR 18 0), some (zI x1), some (zI 1), some (zI r9)]) (st := []) (pn := 133) (cl := false) rfl ?_
            refine zF.mono h (fun v M12 h cl12 => ?_)
            obtain ⟨r12, e12, h⟩ := h; subst e12; replace h := h cl12
            show zT 60 (133, [some (zR 18 0), some (zI x1), some (zI 1), some (zI r9)], [zI r12], M12, cl12) _
            refine zT.it 1 (t := (136, [some (zR 18 0), some (zI x1), some (zI 1), some (zI r9)], [zI 500, zI r12], M12, cl12)) rfl ?_
            refine zT.br (g := zr r12 ∧ zr 500) (p := 500 < r12) (t := (143, [some (zR 18 0), some (zI x1), some (zI 1), some (zI r9)], [], M12, cl12)) (u := (139, [some (zR 18 0), some (zI x1), some (zI 1), some (zI r9)], [], M12, cl12)) rfl h.1 (fun c => ?_) (fun c => ?_)
            · replace h := h.2.1 c
              refine zT.it 1 (t := (144, [some (zR 18 0), some (zI x1), some (zI 1), some (zI r9)], [zI 0], M12, cl12)) rfl ?_
              exact h
            · replace h := h.2.2 c
              refine zT.it 2 (t := (144, [some (zR 18 0), some (zI x1), some (zI 1), some (zI r9)], [zI 1], M12, cl12)) rfl ?_
              exact h
    · replace h := h.2.2 c
      refine zT.it 3 (t := (56, [some (zR 18 0), some (zI x1), some (zI 1), some (zI r9)], [zI 1, zR 24 0, zI 1, zR 25 0], M11, cl11)) rfl ?_
      refine zT.chk (t := (57, [some (zR 18 0), some (zI x1), some (zI 1), some (zI r9)], [zI (M11.1 24 0 1), zI 1, zR 25 0], M11, cl11)) rfl (by first | decide | (dsimp only; decide)) ?_
      refine zT.it 3 (t := (70, [some (zR 18 0), some (zI x1), some (zI 1), some (zI r9)], [zI ((M11.1 24 0 1) + r9), zI 1, zR 25 0], M11, cl11)) rfl ?_
      refine zT.chk (t := (71, [some (zR 18 0), some (zI x1), some (zI 1), some (zI r9)], [], (z_w M11 25 0 1 ((M11.1 24 0 1) + r9)), false)) rfl (by first | decide | (dsimp only; decide)) ?_
      refine zT.it 1 (t := (72, [some (zR 18 0), some (zI x1), some (zI 1), some (zI r9)], [zI x1], (z_w M11 25 0 1 ((M11.1 24 0 1) + r9)), false)) rfl ?_
      refine zT.br (g := zr x1) (p := x1 = 0) (t := (143, [some (zR 18 0), some (zI x1), some (zI 1), some (zI r9)], [], (z_w M11 25 0 1 ((M11.1 24 0 1) + r9)), false)) (u := (75, [some (zR 18 0), some (zI x1), some (zI 1), some (zI r9)], [], (z_w M11 25 0 1 ((M11.1 24 0 1) + r9)), false)) rfl h.1 (fun c => ?_) (fun c => ?_)
      · replace h := h.2.1 c
        refine zT.it 1 (t := (144, [some (zR 18 0), some (zI x1), some (zI 1), some (zI r9)], [zI 0], (z_w M11 25 0 1 ((M11.1 24 0 1) + r9)), false)) rfl ?_
        exact h
      · replace h := h.2.2 c
        refine zT.it 3 (t := (80, [some (zR 18 0), some (zI x1), some (zI 1), some (zI r9)], [zI 1, zR 25 0], (z_w M11 25 0 1 ((M11.1 24 0 1) + r9)), false)) rfl ?_
        refine zT.chk (t := (81, [some (zR 18 0), some (zI x1), some (zI 1), some (zI r9)], [zI ((M11.1 24 0 1) + r9)], (z_w M11 25 0 1 ((M11.1 24 0 1) + r9)), false)) rfl (by first | decide | (dsimp only; decide)) ?_
        refine zT.it 2 (t := (83, [some (zR 18 0), some (zI x1), some (zI 1), some (zI r9)], [zI 2, zI 1, zI ((M11.1 24 0 1) + r9)], (z_w M11 25 0 1 ((M11.1 24 0 1) + r9)), false)) rfl ?_
        refine zT.br (g := zr 1 ∧ zr 2) (p := ¬ 1 = 2) (t := (91, [some (zR 18 0), some (zI x1), some (zI 1), some (zI r9)], [zI ((M11.1 24 0 1) + r9)], (z_w M11 25 0 1 ((M11.1 24 0 1) + r9)), false)) (u := (86, [some (zR 18 0), some (zI x1), some (zI 1), some (zI r9)], [zI ((M11.1 24 0 1) + r9)], (z_w M11 25 0 1 ((M11.1 24 0 1) + r9)), false)) rfl (by decide) (fun c => ?_) (fun c => absurd (by decide) c)
        refine zT.it 1 (t := (92, [some (zR 18 0), some (zI x1), some (zI 1), some (zI r9)], [zI 0, zI ((M11.1 24 0 1) + r9)], (z_w M11 25 0 1 ((M11.1 24 0 1) + r9)), false)) rfl ?_
        refine zT.br (g := zr ((M11.1 24 0 1) + r9) ∧ zr 0) (p := ((M11.1 24 0 1) + r9) < 0) (t := (143, [some (zR 18 0), some (zI x1), some (zI 1), some (zI r9)], [], (z_w M11 25 0 1 ((M11.1 24 0 1) + r9)), false)) (u := (95, [some (zR 18 0), some (zI x1), some (zI 1), some (zI r9)], [], (z_w M11 25 0 1 ((M11.1 24 0 1) + r9)), false)) rfl h.1 (fun c => ?_) (fun c => ?_)
        · replace h := h.2.1 c
          refine zT.it 1 (t := (144, [some (zR 18 0), some (zI x1), some (zI 1), some (zI r9)], [zI 0], (z_w M11 25 0 1 ((M11.1 24 0 1) + r9)), false)) rfl ?_
          exact h
        · replace h := h.2.2 c
          refine zT.it 3 (t := (100, [some (zR 18 0), some (zI x1), some (zI 1), some (zI r9)], [zI 1, zR 25 0], (z_w M11 25 0 1 ((M11.1 24 0 1) + r9)), false)) rfl ?_
          refine zT.chk (t := (101, [some (zR 18 0), some (zI x1), some (zI 1), some (zI r9)], [zI ((M11.1 24 0 1) + r9)], (z_w M11 25 0 1 ((M11.1 24 0 1) + r9)), false)) rfl (by first | decide | (dsimp only; decide)) ?_
          refine zT.it 2 (t := (103, [some (zR 18 0), some (zI x1), some (zI 1), some (zI r9)], [zI 2, zI 1, zI ((M11.1 24 0 1) + r9)], (z_w M11 25 0 1 ((M11.1 24 0 1) + r9)), false)) rfl ?_
          refine zT.br (g := zr 1 ∧ zr 2) (p := ¬ 1 = 2) (t := (111, [some (zR 18 0), some (zI x1), some (zI 1), some (zI r9)], [zI ((M11.1 24 0 1) + r9)], (z_w M11 25 0 1 ((M11.1 24 0 1) + r9)), false)) (u := (106, [some (zR 18 0), some (zI x1), some (zI 1), some (zI r9)], [zI ((M11.1 24 0 1) + r9)], (z_w M11 25 0 1 ((M11.1 24 0 1) + r9)), false)) rfl (by decide) (fun c => ?_) (fun c => absurd (by decide) c)
          refine zT.it 1 (t := (114, [some (zR 18 0), some (zI x1), some (zI 1), some (zI r9)], [zI 999, zI ((M11.1 24 0 1) + r9)], (z_w M11 25 0 1 ((M11.1 24 0 1) + r9)), false)) rfl ?_
          refine zT.br (g := zr ((M11.1 24 0 1) + r9) ∧ zr 999) (p := 999 < ((M11.1 24 0 1) + r9)) (t := (143, [some (zR 18 0), some (zI x1), some (zI 1), some (zI r9)], [], (z_w M11 25 0 1 ((M11.1 24 0 1) + r9)), false)) (u := (117, [some (zR 18 0), some (zI x1), some (zI 1), some (zI r9)], [], (z_w M11 25 0 1 ((M11.1 24 0 1) + r9)), false)) rfl h.1 (fun c => ?_) (fun c => ?_)
          · replace h := h.2.1 c
            refine zT.it 1 (t := (144, [some (zR 18 0), some (zI x1), some (zI 1), some (zI r9)], [zI 0], (z_w M11 25 0 1 ((M11.1 24 0 1) + r9)), false)) rfl ?_
            exact h
          · replace h := h.2.2 c
            refine zT.it 3 (t := (122, [some (zR 18 0), some (zI x1), some (zI 1), some (zI r9)], [zI 1, zR 25 0], (z_w M11 25 0 1 ((M11.1 24 0 1) + r9)), false)) rfl ?_
            refine zT.chk (t := (123, [some (zR 18 0), some (zI x1), some (zI 1), some (zI r9)], [zI ((M11.1 24 0 1) + r9)], (z_w M11 25 0 1 ((M11.1 24 0 1) + r9)), false)) rfl (by first | decide | (dsimp only; decide)) ?_
            refine zT.it 3 (t := (128, [some (zR 18 0), some (zI x1), some (zI 1), some (zI r9)], [zI 1, zR 24 0, zI ((M11.1 24 0 1) + r9)], (z_w M11 25 0 1 ((M11.1 24 0 1) + r9)), false)) rfl ?_
            refine zT.chk (t := (129, [some (zR 18 0), some (zI x1), some (zI 1), some (zI r9)], [zI (M11.1 24 0 1), zI ((M11.1 24 0 1) + r9)], (z_w M11 25 0 1 ((M11.1 24 0 1) + r9)), false)) rfl (by first | decide | (dsimp only; decide)) ?_
            refine zT.it 1 (t := (130, [some (zR 18 0), some (zI x1), some (zI 1), some (zI r9)], [zI (((M11.1 24 0 1) + r9) - (M11.1 24 0 1))], (z_w M11 25 0 1 ((M11.1 24 0 1) + r9)), false)) rfl ?_
            refine zT.call (m := 59) (as := [zI (((M11.1 24 0 1) + r9) - (M11.1 24 0 1))]) (M := (z_w M11 25 0 1 ((M11.1 24 0 1) + r9))) (L := [some (zR 18 0), some (zI x1), some (zI 1), some (zI r9)]) (st := []) (pn := 133) (cl := false) rfl ?_
            refine zF.mono h (fun v M13 h cl13 => ?_)
            obtain ⟨r13, e13, h⟩ := h; subst e13; replace h := h cl13
            show zT 60 (133, [some (zR 18 0), some (zI x1), some (zI 1), some (zI r9)], [zI r13], M13, cl13) _
            refine zT.it 1 (t := (136, [some (zR 18 0), some (zI x1), some (zI 1), some (zI r9)], [zI 500, zI r13], M13, cl13)) rfl ?_
            refine zT.br (g := zr r13 ∧ zr 500) (p := 500 < r13) (t := (143, [some (zR 18 0), some (zI x1), some (zI 1), some (zI r9)], [], M13, cl13)) (u := (139, [some (zR 18 0), some (zI x1), some (zI 1), some (zI r9)], [], M13, cl13)) rfl h.1 (fun c => ?_) (fun c => ?_)
            · replace h := h.2.1 c
              refine zT.it 1 (t := (144, [some (zR 18 0), some (zI x1), some (zI 1), some (zI r9)], [zI 0], M13, cl13)) rfl ?_
              exact h
            · replace h := h.2.2 c
              refine zT.it 2 (t := (144, [some (zR 18 0), some (zI x1), some (zI 1), some (zI r9)], [zI 1], M13, cl13)) rfl ?_
              exact h
  · replace h := h.2.2 (Decidable.not_not.1 c)
    refine zT.it 3 (t := (40, [some (zR 18 0), some (zI x1), some (zI 1), some (zI r9)], [zI 1, zR 24 0, zI 1, zR 25 0], M11, cl11)) rfl ?_
    refine zT.chk (t := (41, [some (zR 18 0), some (zI x1), some (zI 1), some (zI r9)], [zI (M11.1 24 0 1), zI 1, zR 25 0], M11, cl11)) rfl (by first | decide | (dsimp only; decide)) ?_
    refine zT.it 1 (t := (70, [some (zR 18 0), some (zI x1), some (zI 1), some (zI r9)], [zI (M11.1 24 0 1), zI 1, zR 25 0], M11, cl11)) rfl ?_
    refine zT.chk (t := (71, [some (zR 18 0), some (zI x1), some (zI 1), some (zI r9)], [], (z_w M11 25 0 1 (M11.1 24 0 1)), false)) rfl (by first | decide | (dsimp only; decide)) ?_
    refine zT.it 1 (t := (72, [some (zR 18 0), some (zI x1), some (zI 1), some (zI r9)], [zI x1], (z_w M11 25 0 1 (M11.1 24 0 1)), false)) rfl ?_
    refine zT.br (g := zr x1) (p := x1 = 0) (t := (143, [some (zR 18 0), some (zI x1), some (zI 1), some (zI r9)], [], (z_w M11 25 0 1 (M11.1 24 0 1)), false)) (u := (75, [some (zR 18 0), some (zI x1), some (zI 1), some (zI r9)], [], (z_w M11 25 0 1 (M11.1 24 0 1)), false)) rfl h.1 (fun c => ?_) (fun c => ?_)
    · replace h := h.2.1 c
      refine zT.it 1 (t := (144, [some (zR 18 0), some (zI x1), some (zI 1), some (zI r9)], [zI 0], (z_w M11 25 0 1 (M11.1 24 0 1)), false)) rfl ?_
      exact h
    · replace h := h.2.2 c
      refine zT.it 3 (t := (80, [some (zR 18 0), some (zI x1), some (zI 1), some (zI r9)], [zI 1, zR 25 0], (z_w M11 25 0 1 (M11.1 24 0 1)), false)) rfl ?_
      refine zT.chk (t := (81, [some (zR 18 0), some (zI x1), some (zI 1), some (zI r9)], [zI (M11.1 24 0 1)], (z_w M11 25 0 1 (M11.1 24 0 1)), false)) rfl (by first | decide | (dsimp only; decide)) ?_
      refine zT.it 2 (t := (83, [some (zR 18 0), some (zI x1), some (zI 1), some (zI r9)], [zI 2, zI 1, zI (M11.1 24 0 1)], (z_w M11 25 0 1 (M11.1 24 0 1)), false)) rfl ?_
      refine zT.br (g := zr 1 ∧ zr 2) (p := ¬ 1 = 2) (t := (91, [some (zR 18 0), some (zI x1), some (zI 1), some (zI r9)], [zI (M11.1 24 0 1)], (z_w M11 25 0 1 (M11.1 24 0 1)), false)) (u := (86, [some (zR 18 0), some (zI x1), some (zI 1), some (zI r9)], [zI (M11.1 24 0 1)], (z_w M11 25 0 1 (M11.1 24 0 1)), false)) rfl (by decide) (fun c => ?_) (fun c => absurd (by decide) c)
      refine zT.it 1 (t := (92, [some (zR 18 0), some (zI x1), some (zI 1), some (zI r9)], [zI 0, zI (M11.1 24 0 1)], (z_w M11 25 0 1 (M11.1 24 0 1)), false)) rfl ?_
      refine zT.br (g := zr (M11.1 24 0 1) ∧ zr 0) (p := (M11.1 24 0 1) < 0) (t := (143, [some (zR 18 0), some (zI x1), some (zI 1), some (zI r9)], [], (z_w M11 25 0 1 (M11.1 24 0 1)), false)) (u := (95, [some (zR 18 0), some (zI x1), some (zI 1), some (zI r9)], [], (z_w M11 25 0 1 (M11.1 24 0 1)), false)) rfl h.1 (fun c => ?_) (fun c => ?_)
      · replace h := h.2.1 c
        refine zT.it 1 (t := (144, [some (zR 18 0), some (zI x1), some (zI 1), some (zI r9)], [zI 0], (z_w M11 25 0 1 (M11.1 24 0 1)), false)) rfl ?_
        exact h
      · replace h := h.2.2 c
        refine zT.it 3 (t := (100, [some (zR 18 0), some (zI x1), some (zI 1), some (zI r9)], [zI 1, zR 25 0], (z_w M11 25 0 1 (M11.1 24 0 1)), false)) rfl ?_
        refine zT.chk (t := (101, [some (zR 18 0), some (zI x1), some (zI 1), some (zI r9)], [zI (M11.1 24 0 1)], (z_w M11 25 0 1 (M11.1 24 0 1)), false)) rfl (by first | decide | (dsimp only; decide)) ?_
        refine zT.it 2 (t := (103, [some (zR 18 0), some (zI x1), some (zI 1), some (zI r9)], [zI 2, zI 1, zI (M11.1 24 0 1)], (z_w M11 25 0 1 (M11.1 24 0 1)), false)) rfl ?_
        refine zT.br (g := zr 1 ∧ zr 2) (p := ¬ 1 = 2) (t := (111, [some (zR 18 0), some (zI x1), some (zI 1), some (zI r9)], [zI (M11.1 24 0 1)], (z_w M11 25 0 1 (M11.1 24 0 1)), false)) (u := (106, [some (zR 18 0), some (zI x1), some (zI 1), some (zI r9)], [zI (M11.1 24 0 1)], (z_w M11 25 0 1 (M11.1 24 0 1)), false)) rfl (by decide) (fun c => ?_) (fun c => absurd (by decide) c)
        refine zT.it 1 (t := (114, [some (zR 18 0), some (zI x1), some (zI 1), some (zI r9)], [zI 999, zI (M11.1 24 0 1)], (z_w M11 25 0 1 (M11.1 24 0 1)), false)) rfl ?_
        refine zT.br (g := zr (M11.1 24 0 1) ∧ zr 999) (p := 999 < (M11.1 24 0 1)) (t := (143, [some (zR 18 0), some (zI x1), some (zI 1), some (zI r9)], [], (z_w M11 25 0 1 (M11.1 24 0 1)), false)) (u := (117, [some (zR 18 0), some (zI x1), some (zI 1), some (zI r9)], [], (z_w M11 25 0 1 (M11.1 24 0 1)), false)) rfl h.1 (fun c => ?_) (fun c => ?_)
        · replace h := h.2.1 c
          refine zT.it 1 (t := (144, [some (zR 18 0), some (zI x1), some (zI 1), some (zI r9)], [zI 0], (z_w M11 25 0 1 (M11.1 24 0 1)), false)) rfl ?_
          exact h
        · replace h := h.2.2 c
          refine zT.it 3 (t := (122, [some (zR 18 0), some (zI x1), some (zI 1), some (zI r9)], [zI 1, zR 25 0], (z_w M11 25 0 1 (M11.1 24 0 1)), false)) rfl ?_
          refine zT.chk (t := (123, [some (zR 18 0), some (zI x1), some (zI 1), some (zI r9)], [zI (M11.1 24 0 1)], (z_w M11 25 0 1 (M11.1 24 0 1)), false)) rfl (by first | decide | (dsimp only; decide)) ?_
          refine zT.it 3 (t := (128, [some (zR 18 0), some (zI x1), some (zI 1), some (zI r9)], [zI 1, zR 24 0, zI (M11.1 24 0 1)], (z_w M11 25 0 1 (M11.1 24 0 1)), false)) rfl ?_
          refine zT.chk (t := (129, [some (zR 18 0), some (zI x1), some (zI 1), some (zI r9)], [zI (M11.1 24 0 1), zI (M11.1 24 0 1)], (z_w M11 25 0 1 (M11.1 24 0 1)), false)) rfl (by first | decide | (dsimp only; decide)) ?_
          refine zT.it 1 (t := (130, [some (zR 18 0), some (zI x1), some (zI 1), some (zI r9)], [zI ((M11.1 24 0 1) - (M11.1 24 0 1))], (z_w M11 25 0 1 (M11.1 24 0 1)), false)) rfl ?_
          refine zT.call (m := 59) (as := [zI ((M11.1 24 0 1) - (M11.1 24 0 1))]) (M := (z_w M11 25 0 1 (M11.1 24 0 1))) (L := [some (zR 18 0), some (zI x1), some (zI 1), some (zI r9)]) (st := []) (pn := 133) (cl := false) rfl ?_
          refine zF.mono h (fun v M14 h cl14 => ?_)
          obtain ⟨r14, e14, h⟩ := h; subst e14; replace h := h cl14
          show zT 60 (133, [some (zR 18 0), some (zI x1), some (zI 1), some (zI r9)], [zI r14], M14, cl14) _
          refine zT.it 1 (t := (136, [some (zR 18 0), some (zI x1), some (zI 1), some (zI r9)], [zI 500, zI r14], M14, cl14)) rfl ?_
          refine zT.br (g := zr r14 ∧ zr 500) (p := 500 < r14) (t := (143, [some (zR 18 0), some (zI x1), some (zI 1), some (zI r9)], [], M14, cl14)) (u := (139, [some (zR 18 0), some (zI x1), some (zI 1), some (zI r9)], [], M14, cl14)) rfl h.1 (fun c => ?_) (fun c => ?_)
          · replace h := h.2.1 c
            refine zT.it 1 (t := (144, [some (zR 18 0), some (zI x1), some (zI 1), some (zI r9)], [zI 0], M14, cl14)) rfl ?_
            exact h
          · replace h := h.2.2 c
            refine zT.it 2 (t := (144, [some (zR 18 0), some (zI x1), some (zI 1), some (zI r9)], [zI 1], M14, cl14)) rfl ?_
            exact h
theorem g60_4a2 {x1 : Int} {u3 : Option zV} {M : zM} {cl : Bool} {Q : zQ} (h : zF 58 [zI 2] M (fun v M15 => ∃ r15 : Int, v = some (zI r15) ∧ ∀ cl15 : Bool, zF 56 [zR 18 0, zI r15, zI 0] M15 (fun v M16 => ∃ r16 : Int, v = some (zI r16) ∧ ∀ cl16 : Bool, zF 58 [zI 2] M16 (fun v M17 => ∃ r17 : Int, v = some (zI r17) ∧ ∀ cl17 : Bool, zF 55 [zR 18 0, zI r17] M17 (fun v M18 => ∃ r18 : Int, v = some (zI r18) ∧ ∀ cl18 : Bool, (zr r18) ∧ ((¬ r18 = 0 → (zr (M18.1 18 0 9)) ∧ (((M18.1 18 0 9) = 0 → (zr x1) ∧ ((x1 = 0 → zT 60 (144, [some (zR 18 0), some (zI x1), some (zI 2), some (zI r16)], [zI 0], (z_w M18 25 0 2 ((M18.1 22 0 2) + r16)), false) Q) ∧ (¬ (x1 = 0) → (zr ((M18.1 22 0 2) + r16) ∧ zr (-99999)) ∧ ((((M18.1 22 0 2) + r16) < (-99999) → zT 60 (144, [some (zR 18 0), some (zI x1), some (zI 2), some (zI r16)], [zI 0], (z_w M18 25 0 2 ((M18.1 22 0 2) + r16)), false) Q) ∧ (¬ (((M18.1 22 0 2) + r16) < (-99999)) → (zr ((M18.1 22 0 2) + r16) ∧ zr 99999) ∧ ((99999 < ((M18.1 22 0 2) + r16) → zT 60 (144, [some (zR 18 0), some (zI x1), some (zI 2), some (zI r16)], [zI 0], (z_w M18 25 0 2 ((M18.1 22 0 2) + r16)), false) Q) ∧ (¬ (99999 < ((M18.1 22 0 2) + r16)) → zF 59 [zI (((M18.1 22 0 2) + r16) - (M18.1 24 0 2))] (z_w M18 25 0 2 ((M18.1 22 0 2) + r16)) (fun v M19 => ∃ r19 : Int, v = some (zI r19) ∧ ∀ cl19 : Bool, (zr r19 ∧ zr 500) ∧ ((500 < r19 → zT 60 (144, [some (zR 18 0), some (zI x1), some (zI 2), some (zI r16)], [zI 0], M19, cl19) Q) ∧ (¬ (500 < r19) → zT 60 (144, [some (zR 18 0), some (zI x1), some (zI 2), some (zI r16)], [zI 1], M19, cl19) Q)))))))))) ∧ (¬ ((M18.1 18 0 9) = 0) → (zr x1) ∧ ((x1 = 0 → zT 60 (144, [some (zR 18 0), some (zI x1), some (zI 2), some (zI r16)], [zI 0], (z_w M18 25 0 2 ((M18.1 24 0 2) + r16)), false) Q) ∧ (¬ (x1 = 0) → (zr ((M18.1 24 0 2) + r16) ∧ zr (-99999)) ∧ ((((M18.1 24 0 2) + r16) < (-99999) → zT 60 (144, [some (zR 18 0), some (zI x1), some (zI 2), some (zI r16)], [zI 0], (z_w M18 25 0 2 ((M18.1 24 0 2) + r16)), false) Q) ∧ (¬ (((M18.1 24 0 2) + r16) < (-99999)) → (zr ((M18.1 24 0 2) + r16) ∧ zr 99999) ∧ ((99999 < ((M18.1 24 0 2) + r16) → zT 60 (144, [some (zR 18 0), some (zI x1), some (zI 2), some (zI r16)], [zI 0], (z_w M18 25 0 2 ((M18.1 24 0 2) + r16)), false) Q) ∧ (¬ (99999 < ((M18.1 24 0 2) + r16)) → zF 59 [zI (((M18.1 24 0 2) + r16) - (M18.1 24 0 2))] (z_w M18 25 0 2 ((M18.1 24 0 2) + r16)) (fun v M20 => ∃ r20 : Int, v = some (zI r20) ∧ ∀ cl20 : Bool, (zr r20 ∧ zr 500) ∧ ((500 < r20 → zT 60 (144, [some (zR 18 0), some (zI x1), some (zI 2), some (zI r16)], [zI 0], M20, cl20) Q) ∧ (¬ (500 < r20) → zT 60 (144, [some (zR 18 0), some (zI x1), some (zI 2), some (zI r16)], [zI 1], M20, cl20) Q)))))))))))) ∧ (r18 = 0 → (zr x1) ∧ ((x1 = 0 → zT 60 (144, [some (zR 18 0), some (zI x1), some (zI 2), some (zI r16)], [zI 0], (z_w M18 25 0 2 (M18.1 24 0 2)), false) Q) ∧ (¬ (x1 = 0) → (zr (M18.1 24 0 2) ∧ zr (-99999)) ∧ (((M18.1 24 0 2) < (-99999) → zT 60 (144, [some (zR 18 0), some (zI x1), some (zI 2), some (zI r16)], [zI 0], (z_w M18 25 0 2 (M18.1 24 0 2)), false) Q) ∧ (¬ ((M18.1 24 0 2) < (-99999)) → (zr (M18.1 24 0 2) ∧ zr 99999) ∧ ((99999 < (M18.1 24 0 2) → zT 60 (144, [some (zR 18 0), some (zI x1), some (zI 2), some (zI r16)], [zI 0], (z_w M18 25 0 2 (M18.1 24 0 2)), false) Q) ∧ (¬ (99999 < (M18.1 24 0 2)) → zF 59 [zI ((M18.1 24 0 2) - (M18.1 24 0 2))] (z_w M18 25 0 2 (M18.1 24 0 2)) (fun v M21 => ∃ r21 : Int, v = some (zI r21) ∧ ∀ cl21 : Bool, (zr r21 ∧ zr 500) ∧ ((500 < r21 → zT 60 (144, [some (zR 18 0), some (zI x1), some (zI 2), some (zI r16)], [zI 0], M21, cl21) Q) ∧ (¬ (500 < r21) → zT 60 (144, [some (zR 18 0), some (zI x1), some (zI 2), some (zI r16)], [zI 1], M21, cl21) Q)))))))))))))))) : zT 60 (4, [some (zR 18 0), some (zI x1), some (zI 2), u3], [], M, cl) Q := by
  refine zT.it 2 (t := (6, [some (zR 18 0), some (zI x1), some (zI 2), u3], [zI 3, zI 2], M, cl)) rfl ?_
  refine zT.br (g := zr 2 ∧ zr 3) (p := 3 ≤ 2) (t := (151, [some (zR 18 0), some (zI x1), some (zI 2), u3], [], M, cl)) (u := (9, [some (zR 18 0), some (zI x1), some (zI 2), u3], [], M, cl)) rfl (by decide) (fun c => absurd c (by decide)) (fun c => ?_)
  refine zT.it 2 (t := (11, [some (zR 18 0), some (zI x1), some (zI 2), u3], [zI 2, zR 18 0], M, cl)) rfl ?_
  refine zT.call (m := 58) (as := [zI 2]) (M := M) (L := [some (zR 18 0), some (zI x1), some (zI 2), u3]) (st := [zR 18 0]) (pn := 14) (cl := cl) rfl ?_
  refine zF.mono h (fun v M15 h cl15 => ?_)
  obtain ⟨r15, e15, h⟩ := h; subst e15; replace h := h cl15
  show zT 60 (14, [some (zR 18 0), some (zI x1), some (zI 2), u3], [zI r15, zR 18 0], M15, cl15) _
  refine zT.it 1 (t := (15, [some (zR 18 0), some (zI x1), some (zI 2), u3], [zI 0, zI r15, zR 18 0], M15, cl15)) rfl ?_
  refine zT.call (m := 56) (as := [zR 18 0, zI r15, zI 0]) (M := M15) (L := [some (zR 18 0), some (zI x1), some (zI 2), u3]) (st := []) (pn := 18) (cl := cl15) rfl ?_
  refine zF.mono h (fun v M16 h cl16 => ?_)
  obtain ⟨r16, e16, h⟩ := h; subst e16; replace h := h cl16
  show zT 60 (18, [some (zR 18 0), some (zI x1), some (zI 2), u3], [zI r16], M16, cl16) _
  refine zT.it 6 (t := (26, [some (zR 18 0), some (zI x1), some (zI 2), some (zI r16)], [zI 2, zR 18 0, zI 2, zR 25 0], M16, cl16)) rfl ?_
  refine zT.call (m := 58) (as := [zI 2]) (M := M16) (L := [some (zR 18 0), some (zI x1), some (zI 2), some (zI r16)]) (st := [zR 18 0, zI 2, zR 25 0]) (pn := 29) (cl := cl16) rfl ?_
  refine zF.mono h (fun v M17 h cl17 => ?_)
  obtain ⟨r17, e17, h⟩ := h; subst e17; replace h := h cl17
  show zT 60 (29, [some (zR 18 0), some (zI x1), some (zI 2), some (zI r16)], [zI r17, zR 18 0, zI 2, zR 25 0], M17, cl17) _
  refine zT.call (m := 55) (as := [zR 18 0, zI r17]) (M := M17) (L := [some (zR 18 0), some (zI x1), some (zI 2), some (zI r16)]) (st := [zI 2, zR 25 0]) (pn := 32) (cl := cl17) rfl ?_
  refine zF.mono h (fun v M18 h cl18 => ?_)
  obtain ⟨r18, e18, h⟩ := h; subst e18; replace h := h cl18
  show zT 60 (32, [some (zR 18 0), some (zI x1), some (zI 2), some (zI r16)], [zI r18, zI 2, zR 25 0], M18, cl18) _
  refine zT.br (g := zr r18) (p := ¬ r18 = 0) (t := (44, [some (zR 18 0), some (zI x1), some (zI 2), some (zI r16)], [zI 2, zR 25 0], M18, cl18)) (u := (35, [some (zR 18 0), some (zI x1), some (zI 2), some (zI r16)], [zI 2, zR 25 0], M18, cl18)) rfl h.1 (fun c => ?_) (fun c => ?_)
  · replace h := h.2.1 c
    refine zT.it 2 (t := (48, [some (zR 18 0), some (zI x1), some (zI 2), some (zI r16)], [zI (M18.1 18 0 9), zI 2, zR 25 0], M18, cl18)) rfl ?_
    refine zT.br (g := zr (M18.1 18 0 9)) (p := (M18.1 18 0 9) = 0) (t := (62, [some (zR 18 0), some (zI x1), some (zI 2), some (zI r16)], [zI 2, zR 25 0], M18, cl18)) (u := (51, [some (zR 18 0), some (zI x1), some (zI 2), some (zI r16)], [zI 2, zR 25 0], M18, cl18)) rfl h.1 (fun c => ?_) (fun c => ?_)
    · replace h := h.2.1 c
      refine zT.it 3 (t := (67, [some (zR 18 0), some (zI x1), some (zI 2), some (zI r16)], [zI 2, zR 22 0, zI 2, zR 25 0], M18, cl18)) rfl ?_
      refine zT.chk (t := (68, [some (zR 18 0), some (zI x1), some (zI 2), some (zI r16)], [zI (M18.1 22 0 2), zI 2, zR 25 0], M18, cl18)) rfl (by first | decide | (dsimp only; decide)) ?_
      refine zT.it 2 (t := (70, [some (zR 18 0), some (zI x1), some (zI 2), some (zI r16)], [zI ((M18.1 22 0 2) + r16), zI 2, zR 25 0], M18, cl18)) rfl ?_
      refine zT.chk (t := (71, [some (zR 18 0), some (zI x1), some (zI 2), some (zI r16)], [], (z_w M18 25 0 2 ((M18.1 22 0 2) + r16)), false)) rfl (by first | decide | (dsimp only; decide)) ?_
      refine zT.it 1 (t := (72, [some (zR 18 0), some (zI x1), some (zI 2), some (zI r16)], [zI x1], (z_w M18 25 0 2 ((M18.1 22 0 2) + r16)), false)) rfl ?_
      refine zT.br (g := zr x1) (p := x1 = 0) (t := (143, [some (zR 18 0), some (zI x1), some (zI 2), some (zI r16)], [], (z_w M18 25 0 2 ((M18.1 22 0 2) + r16)), false)) (u := (75, [some (zR 18 0), some (zI x1), some (zI 2), some (zI r16)], [], (z_w M18 25 0 2 ((M18.1 22 0 2) + r16)), false)) rfl h.1 (fun c => ?_) (fun c => ?_)
      · replace h := h.2.1 c
        refine zT.it 1 (t := (144, [some (zR 18 0), some (zI x1), some (zI 2), some (zI r16)], [zI 0], (z_w M18 25 0 2 ((M18.1 22 0 2) + r16)), false)) rfl ?_
        exact h
      · replace h := h.2.2 c
        refine zT.it 3 (t := (80, [some (zR 18 0), some (zI x1), some (zI 2), some (zI r16)], [zI 2, zR 25 0], (z_w M18 25 0 2 ((M18.1 22 0 2) + r16)), false)) rfl ?_
        refine zT.chk (t := (81, [some (zR 18 0), some (zI x1), some (zI 2), some (zI r16)], [zI ((M18.1 22 0 2) + r16)], (z_w M18 25 0 2 ((M18.1 22 0 2) + r16)), false)) rfl (by first | decide | (dsimp only; decide)) ?_
        refine zT.it 2 (t := (83, [some (zR 18 0), some (zI x1), some (zI 2), some (zI r16)], [zI 2, zI 2, zI ((M18.1 22 0 2) + r16)], (z_w M18 25 0 2 ((M18.1 22 0 2) + r16)), false)) rfl ?_
        refine zT.br (g := zr 2 ∧ zr 2) (p := ¬ 2 = 2) (t := (91, [some (zR 18 0), some (zI x1), some (zI 2), some (zI r16)], [zI ((M18.1 22 0 2) + r16)], (z_w M18 25 0 2 ((M18.1 22 0 2) + r16)), false)) (u := (86, [some (zR 18 0), some (zI x1), some (zI 2), some (zI r16)], [zI ((M18.1 22 0 2) + r16)], (z_w M18 25 0 2 ((M18.1 22 0 2) + r16)), false)) rfl (by decide) (fun c => absurd c (by decide)) (fun c => ?_)
        refine zT.it 2 (t := (92, [some (zR 18 0), some (zI x1), some (zI 2), some (zI r16)], [zI (-99999), zI ((M18.1 22 0 2) + r16)], (z_w M18 25 0 2 ((M18.1 22 0 2) + r16)), false)) rfl ?_
        refine zT.br (g := zr ((M18.1 22 0 2) + r16) ∧ zr (-99999)) (p := ((M18.1 22 0 2) + r16) < (-99999)) (t := (143, [some (zR 18 0), some (zI x1), some (zI 2), some (zI r16)], [], (z_w M18 25 0 2 ((M18.1 22 0 2) + r16)), false)) (u := (95, [some (zR 18 0), some (zI x1), some (zI 2), some (zI r16)], [], (z_w M18 25 0 2 ((M18.1 22 0 2) + r16)), false)) rfl h.1 (fun c => ?_) (fun c => ?_)
        · replace h := h.2.1 c
          refine zT.it 1 (t := (144, [some (zR 18 0), some (zI x1), some (zI 2), some (zI r16)], [zI 0], (z_w M18 25 0 2 ((M18.1 22 0 2) + r16)), false)) rfl ?_
          exact h
        · replace h := h.2.2 c
          refine zT.it 3 (t := (100, [some (zR 18 0), some (zI x1), some (zI 2), some (zI r16)], [zI 2, zR 25 0], (z_w M18 25 0 2 ((M18.1 22 0 2) + r16)), false)) rfl ?_
          refine zT.chk (t := (101, [some (zR 18 0), some (zI x1), some (zI 2), some (zI r16)], [zI ((M18.1 22 0 2) + r16)], (z_w M18 25 0 2 ((M18.1 22 0 2) + r16)), false)) rfl (by first | decide | (dsimp only; decide)) ?_
          refine zT.it 2 (t := (103, [some (zR 18 0), some (zI x1), some (zI 2), some (zI r16)], [zI 2, zI 2, zI ((M18.1 22 0 2) + r16)], (z_w M18 25 0 2 ((M18.1 22 0 2) + r16)), false)) rfl ?_
          refine zT.br (g := zr 2 ∧ zr 2) (p := ¬ 2 = 2) (t := (111, [some (zR 18 0), some (zI x1), some (zI 2), some (zI r16)], [zI ((M18.1 22 0 2) + r16)], (z_w M18 25 0 2 ((M18.1 22 0 2) + r16)), false)) (u := (106, [some (zR 18 0), some (zI x1), some (zI 2), some (zI r16)], [zI ((M18.1 22 0 2) + r16)], (z_w M18 25 0 2 ((M18.1 22 0 2) + r16)), false)) rfl (by decide) (fun c => absurd c (by decide)) (fun c => ?_)
          refine zT.it 2 (t := (114, [some (zR 18 0), some (zI x1), some (zI 2), some (zI r16)], [zI 99999, zI ((M18.1 22 0 2) + r16)], (z_w M18 25 0 2 ((M18.1 22 0 2) + r16)), false)) rfl ?_
          refine zT.br (g := zr ((M18.1 22 0 2) + r16) ∧ zr 99999) (p := 99999 < ((M18.1 22 0 2) + r16)) (t := (143, [some (zR 18 0), some (zI x1), some (zI 2), some (zI r16)], [], (z_w M18 25 0 2 ((M18.1 22 0 2) + r16)), false)) (u := (117, [some (zR 18 0), some (zI x1), some (zI 2), some (zI r16)], [], (z_w M18 25 0 2 ((M18.1 22 0 2) + r16)), false)) rfl h.1 (fun c => ?_) (fun c => ?_)
          · replace h := h.2.1 c
            refine zT.it 1 (t := (144, [some (zR 18 0), some (zI x1), some (zI 2), some (zI r16)], [zI 0], (z_w M18 25 0 2 ((M18.1 22 0 2) + r16)), false)) rfl ?_
            exact h
          · replace h := h.2.2 c
            refine zT.it 3 (t := (122, [some (zR 18 0), some (zI x1), some (zI 2), some (zI r16)], [zI 2, zR 25 0], (z_w M18 25 0 2 ((M18.1 22 0 2) + r16)), false)) rfl ?_
            refine zT.chk (t := (123, [some (zR 18 0), some (zI x1), some (zI 2), some (zI r16)], [zI ((M18.1 22 0 2) + r16)], (z_w M18 25 0 2 ((M18.1 22 0 2) + r16)), false)) rfl (by first | decide | (dsimp only; decide)) ?_
            refine zT.it 3 (t := (128, [some (zR 18 0), some (zI x1), some (zI 2), some (zI r16)], [zI 2, zR 24 0, zI ((M18.1 22 0 2) + r16)], (z_w M18 25 0 2 ((M18.1 22 0 2) + r16)), false)) rfl ?_
            refine zT.chk (t := (129, [some (zR 18 0), some (zI x1), some (zI 2), some (zI r16)], [zI (M18.1 24 0 2), zI ((M18.1 22 0 2) + r16)], (z_w M18 25 0 2 ((M18.1 22 0 2) + r16)), false)) rfl (by first | decide | (dsimp only; decide)) ?_
            refine zT.it 1 (t := (130, [some (zR 18 0), some (zI x1), some (zI 2), some (zI r16)], [zI (((M18.1 22 0 2) + r16) - (M18.1 24 0 2))], (z_w M18 25 0 2 ((M18.1 22 0 2) + r16)), false)) rfl ?_
            refine zT.call (m := 59) (as := [zI (((M18.1 22 0 2) + r16) - (M18.1 24 0 2))]) (M := (z_w M18 25 0 2 ((M18.1 22 0 2) + r16))) (L := [some (zR 18 0), some (zI x1), some (zI 2), some (zI r16)]) (st := []) (pn := 133) (cl := false) rfl ?_
            refine zF.mono h (fun v M19 h cl19 => ?_)
            obtain ⟨r19, e19, h⟩ := h; subst e19; replace h := h cl19
            show zT 60 (133, [some (zR 18 0), some (zI x1), some (zI 2), some (zI r16)], [zI r19], M19, cl19) _
            refine zT.it 1 (t := (136, [some (zR 18 0), some (zI x1), some (zI 2), some (zI r16)], [zI 500, zI r19], M19, cl19)) rfl ?_
            refine zT.br (g := zr r19 ∧ zr 500) (p := 500 < r19) (t := (143, [some (zR 18 0), some (zI x1), some (zI 2), some (zI r16)], [], M19, cl19)) (u := (139, [some (zR 18 0), some (zI x1), some (zI 2), some (zI r16)], [], M19, cl19)) rfl h.1 (fun c => ?_) (fun c => ?_)
            · replace h := h.2.1 c
              refine zT.it 1 (t := (144, [some (zR 18 0), some (zI x1), some (zI 2), some (zI r16)], [zI 0], M19, cl19)) rfl ?_
              exact h
            · replace h := h.2.2 c
              refine zT.it 2 (t := (144, [some (zR 18 0), some (zI x1), some (zI 2), some (zI r16)], [zI 1], M19, cl19)) rfl ?_
              exact h
    · replace h := h.2.2 c
      refine zT.it 3 (t := (56, [some (zR 18 0), some (zI x1), some (zI 2), some (zI r16)], [zI 2, zR 24 0, zI 2, zR 25 0], M18, cl18)) rfl ?_
      refine zT.chk (t := (57, [some (zR 18 0), some (zI x1), some (zI 2), some (zI r16)], [zI (M18.1 24 0 2), zI 2, zR 25 0], M18, cl18)) rfl (by first | decide | (dsimp only; decide)) ?_
      refine zT.it 3 (t := (70, [some (zR 18 0), some (zI x1), some (zI 2), some (zI r16)], [zI ((M18.1 24 0 2) + r16), zI 2, zR 25 0], M18, cl18)) rfl ?_
      refine zT.chk (t := (71, [some (zR 18 0), some (zI x1), some (zI 2), some (zI r16)], [], (z_w M18 25 0 2 ((M18.1 24 0 2) + r16)), false)) rfl (by first | decide | (dsimp only; decide)) ?_
      refine zT.it 1 (t := (72, [some (zR 18 0), some (zI x1), some (zI 2), some (zI r16)], [zI x1], (z_w M18 25 0 2 ((M18.1 24 0 2) + r16)), false)) rfl ?_
      refine zT.br (g := zr x1) (p := x1 = 0) (t := (143, [some (zR 18 0), some (zI x1), some (zI 2), some (zI r16)], [], (z_w M18 25 0 2 ((M18.1 24 0 2) + r16)), false)) (u := (75, [some (zR 18 0), some (zI x1), some (zI 2), some (zI r16)], [], (z_w M18 25 0 2 ((M18.1 24 0 2) + r16)), false)) rfl h.1 (fun c => ?_) (fun c => ?_)
      · replace h := h.2.1 c
        refine zT.it 1 (t := (144, [some (zR 18 0), some (zI x1), some (zI 2), some (zI r16)], [zI 0], (z_w M18 25 0 2 ((M18.1 24 0 2) + r16)), false)) rfl ?_
        exact h
      · replace h := h.2.2 c
        refine zT.it 3 (t := (80, [some (zR 18 0), some (zI x1), some (zI 2), some (zI r16)], [zI 2, zR 25 0], (z_w M18 25 0 2 ((M18.1 24 0 2) + r16)), false)) rfl ?_
        refine zT.chk (t := (81, [some (zR 18 0), some (zI x1), some (zI 2), some (zI r16)], [zI ((M18.1 24 0 2) + r16)], (z_w M18 25 0 2 ((M18.1 24 0 2) + r16)), false)) rfl (by first | decide | (dsimp only; decide)) ?_
        refine zT.it 2 (t := (83, [some (zR 18 0), some (zI x1), some (zI 2), some (zI r16)], [zI 2, zI 2, zI ((M18.1 24 0 2) + r16)], (z_w M18 25 0 2 ((M18.1 24 0 2) + r16)), false)) rfl ?_
        refine zT.br (g := zr 2 ∧ zr 2) (p := ¬ 2 = 2) (t := (91, [some (zR 18 0), some (zI x1), some (zI 2), some (zI r16)], [zI ((M18.1 24 0 2) + r16)], (z_w M18 25 0 2 ((M18.1 24 0 2) + r16)), false)) (u := (86, [some (zR 18 0), some (zI x1), some (zI 2), some (zI r16)], [zI ((M18.1 24 0 2) + r16)], (z_w M18 25 0 2 ((M18.1 24 0 2) + r16)), false)) rfl (by decide) (fun c => absurd c (by decide)) (fun c => ?_)
        refine zT.it 2 (t := (92, [some (zR 18 0), some (zI x1), some (zI 2), some (zI r16)], [zI (-99999), zI ((M18.1 24 0 2) + r16)], (z_w M18 25 0 2 ((M18.1 24 0 2) + r16)), false)) rfl ?_
        refine zT.br (g := zr ((M18.1 24 0 2) + r16) ∧ zr (-99999)) (p := ((M18.1 24 0 2) + r16) < (-99999)) (t := (143, [some (zR 18 0), some (zI x1), some (zI 2), some (zI r16)], [], (z_w M18 25 0 2 ((M18.1 24 0 2) + r16)), false)) (u := (95, [some (zR 18 0), some (zI x1), some (zI 2), some (zI r16)], [], (z_w M18 25 0 2 ((M18.1 24 0 2) + r16)), false)) rfl h.1 (fun c => ?_) (fun c => ?_)
        · replace h := h.2.1 c
          refine zT.it 1 (t := (144, [some (zR 18 0), some (zI x1), some (zI 2), some (zI r16)], [zI 0], (z_w M18 25 0 2 ((M18.1 24 0 2) + r16)), false)) rfl ?_
          exact h
        · replace h := h.2.2 c
          refine zT.it 3 (t := (100, [some (zR 18 0), some (zI x1), some (zI 2), some (zI r16)], [zI 2, zR 25 0], (z_w M18 25 0 2 ((M18.1 24 0 2) + r16)), false)) rfl ?_
          refine zT.chk (t := (101, [some (zR 18 0), some (zI x1), some (zI 2), some (zI r16)], [zI ((M18.1 24 0 2) + r16)], (z_w M18 25 0 2 ((M18.1 24 0 2) + r16)), false)) rfl (by first | decide | (dsimp only; decide)) ?_
          refine zT.it 2 (t := (103, [some (zR 18 0), some (zI x1), some (zI 2), some (zI r16)], [zI 2, zI 2, zI ((M18.1 24 0 2) + r16)], (z_w M18 25 0 2 ((M18.1 24 0 2) + r16)), false)) rfl ?_
          refine zT.br (g := zr 2 ∧ zr 2) (p := ¬ 2 = 2) (t := (111, [some (zR 18 0), some (zI x1), some (zI 2), some (zI r16)], [zI ((M18.1 24 0 2) + r16)], (z_w M18 25 0 2 ((M18.1 24 0 2) + r16)), false)) (u := (106, [some (zR 18 0), some (zI x1), some (zI 2), some (zI r16)], [zI ((M18.1 24 0 2) + r16)], (z_w M18 25 0 2 ((M18.1 24 0 2) + r16)), false)) rfl (by decide) (fun c => absurd c (by decide)) (fun c => ?_)
          refine zT.it 2 (t := (114, [some (zR 18 0), some (zI x1), some (zI 2), some (zI r16)], [zI 99999, zI ((M18.1 24 0 2) + r16)], (z_w M18 25 0 2 ((M18.1 24 0 2) + r16)), false)) rfl ?_
          refine zT.br (g := zr ((M18.1 24 0 2) + r16) ∧ zr 99999) (p := 99999 < ((M18.1 24 0 2) + r16)) (t := (143, [some (zR 18 0), some (zI x1), some (zI 2), some (zI r16)], [], (z_w M18 25 0 2 ((M18.1 24 0 2) + r16)), false)) (u := (117, [some (zR 18 0), some (zI x1), some (zI 2), some (zI r16)], [], (z_w M18 25 0 2 ((M18.1 24 0 2) + r16)), false)) rfl h.1 (fun c => ?_) (fun c => ?_)
          · replace h := h.2.1 c
            refine zT.it 1 (t := (144, [some (zR 18 0), some (zI x1), some (zI 2), some (zI r16)], [zI 0], (z_w M18 25 0 2 ((M18.1 24 0 2) + r16)), false)) rfl ?_
            exact h
          · replace h := h.2.2 c
            refine zT.it 3 (t := (122, [some (zR 18 0), some (zI x1), some (zI 2), some (zI r16)], [zI 2, zR 25 0], (z_w M18 25 0 2 ((M18.1 24 0 2) + r16)), false)) rfl ?_
            refine zT.chk (t := (123, [some (zR 18 0), some (zI x1), some (zI 2), some (zI r16)], [zI ((M18.1 24 0 2) + r16)], (z_w M18 25 0 2 ((M18.1 24 0 2) + r16)), false)) rfl (by first | decide | (dsimp only; decide)) ?_
            refine zT.it 3 (t := (128, [some (zR 18 0), some (zI x1), some (zI 2), some (zI r16)], [zI 2, zR 24 0, zI ((M18.1 24 0 2) + r16)], (z_w M18 25 0 2 ((M18.1 24 0 2) + r16)), false)) rfl ?_
            refine zT.chk (t := (129, [some (zR 18 0), some (zI x1), some (zI 2), some (zI r16)], [zI (M18.1 24 0 2), zI ((M18.1 24 0 2) + r16)], (z_w M18 25 0 2 ((M18.1 24 0 2) + r16)), false)) rfl (by first | decide | (dsimp only; decide)) ?_
            refine zT.it 1 (t := (130, [some (zR 18 0), some (zI x1), some (zI 2), some (zI r16)], [zI (((M18.1 24 0 2) + r16) - (M18.1 24 0 2))], (z_w M18 25 0 2 ((M18.1 24 0 2) + r16)), false)) rfl ?_
            refine zT.call (m := 59) (as := [zI (((M18.1 24 0 2) + r16) - (M18.1 24 0 2))]) (M := (z_w M18 25 0 2 ((M18.1 24 0 2) + r16))) (L := [some (zR 18 0), some (zI x1), some (zI 2), some (zI r16)]) (st := []) (pn := 133) (cl := false) rfl ?_
            refine zF.mono h (fun v M20 h cl20 => ?_)
            obtain ⟨r20, e20, h⟩ := h; subst e20; replace h := h cl20
            show zT 60 (133, [some (zR 18 0), some (zI x1), some (zI 2), some (zI r16)], [zI r20], M20, cl20) _
            refine zT.it 1 (t := (136, [some (zR 18 0), some (zI x1), some (zI 2), some (zI r16)], [zI 500, zI r20], M20, cl20)) rfl ?_
            refine zT.br (g := zr r20 ∧ zr 500) (p := 500 < r20) (t := (143, [some (zR 18 0), some (zI x1), some (zI 2), some (zI r16)], [], M20, cl20)) (u := (139, [some (zR 18 0), some (zI x1), some (zI 2), some (zI r16)], [], M20, cl20)) rfl h.1 (fun c => ?_) (fun c => ?_)
            · replace h := h.2.1 c
              refine zT.it 1 (t := (144, [some (zR 18 0), some (zI x1), some (zI 2), some (zI r16)], [zI 0], M20, cl20)) rfl ?_
              exact h
            · replace h := h.2.2 c
              refine zT.it 2 (t := (144, [some (zR 18 0), some (zI x1), some (zI 2), some (zI r16)], [zI 1], M20, cl20)) rfl ?_
              exact h
  · replace h := h.2.2 (Decidable.not_not.1 c)
    refine zT.it 3 (t := (40, [some (zR 18 0), some (zI x1), some (zI 2), some (zI r16)], [zI 2, zR 24 0, zI 2, zR 25 0], M18, cl18)) rfl ?_
    refine zT.chk (t := (41, [some (zR 18 0), some (zI x1), some (zI 2), some (zI r16)], [zI (M18.1 24 0 2), zI 2, zR 25 0], M18, cl18)) rfl (by first | decide | (dsimp only; decide)) ?_
    refine zT.it 1 (t := (70, [some (zR 18 0), some (zI x1), some (zI 2), some (zI r16)], [zI (M18.1 24 0 2), zI 2, zR 25 0], M18, cl18)) rfl ?_
    refine zT.chk (t := (71, [some (zR 18 0), some (zI x1), some (zI 2), some (zI r16)], [], (z_w M18 25 0 2 (M18.1 24 0 2)), false)) rfl (by first | decide | (dsimp only; decide)) ?_
    refine zT.it 1 (t := (72, [some (zR 18 0), some (zI x1), some (zI 2), some (zI r16)], [zI x1], (z_w M18 25 0 2 (M18.1 24 0 2)), false)) rfl ?_
    refine zT.br (g := zr x1) (p := x1 = 0) (t := (143, [some (zR 18 0), some (zI x1), some (zI 2), some (zI r16)], [], (z_w M18 25 0 2 (M18.1 24 0 2)), false)) (u := (75, [some (zR 18 0), some (zI x1), some (zI 2), some (zI r16)], [], (z_w M18 25 0 2 (M18.1 24 0 2)), false)) rfl h.1 (fun c => ?_) (fun c => ?_)
    · replace h := h.2.1 c
      refine zT.it 1 (t := (144, [some (zR 18 0), some (zI x1), some (zI 2), some (zI r16)], [zI 0], (z_w M18 25 0 2 (M18.1 24 0 2)), false)) rfl ?_
      exact h
    · replace h := h.2.2 c
      refine zT.it 3 (t := (80, [some (zR 18 0), some (zI x1), some (zI 2), some (zI r16)], [zI 2, zR 25 0], (z_w M18 25 0 2 (M18.1 24 0 2)), false)) rfl ?_
      refine zT.chk (t := (81, [some (zR 18 0), some (zI x1), some (zI 2), some (zI r16)], [zI (M18.1 24 0 2)], (z_w M18 25 0 2 (M18.1 24 0 2)), false)) rfl (by first | decide | (dsimp only; decide)) ?_
      refine zT.it 2 (t := (83, [some (zR 18 0), some (zI x1), some (zI 2), some (zI r16)], [zI 2, zI 2, zI (M18.1 24 0 2)], (z_w M18 25 0 2 (M18.1 24 0 2)), false)) rfl ?_
      refine zT.br (g := zr 2 ∧ zr 2) (p := ¬ 2 = 2) (t := (91, [some (zR 18 0), some (zI x1), some (zI 2), some (zI r16)], [zI (M18.1 24 0 2)], (z_w M18 25 0 2 (M18.1 24 0 2)), false)) (u := (86, [some (zR 18 0), some (zI x1), some (zI 2), some (zI r16)], [zI (M18.1 24 0 2)], (z_w M18 25 0 2 (M18.1 24 0 2)), false)) rfl (by decide) (fun c => absurd c (by decide)) (fun c => ?_)
      refine zT.it 2 (t := (92, [some (zR 18 0), some (zI x1), some (zI 2), some (zI r16)], [zI (-99999), zI (M18.1 24 0 2)], (z_w M18 25 0 2 (M18.1 24 0 2)), false)) rfl ?_
      refine zT.br (g := zr (M18.1 24 0 2) ∧ zr (-99999)) (p := (M18.1 24 0 2) < (-99999)) (t := (143, [some (zR 18 0), some (zI x1), some (zI 2), some (zI r16)], [], (z_w M18 25 0 2 (M18.1 24 0 2)), false)) (u := (95, [some (zR 18 0), some (zI x1), some (zI 2), some (zI r16)], [], (z_w M18 25 0 2 (M18.1 24 0 2)), false)) rfl h.1 (fun c => ?_) (fun c => ?_)
      · replace h := h.2.1 c
        refine zT.it 1 (t := (144, [some (zR 18 0), some (zI x1), some (zI 2), some (zI r16)], [zI 0], (z_w M18 25 0 2 (M18.1 24 0 2)), false)) rfl ?_
        exact h
      · replace h := h.2.2 c
        refine zT.it 3 (t := (100, [some (zR 18 0), some (zI x1), some (zI 2), some (zI r16)], [zI 2, zR 25 0], (z_w M18 25 0 2 (M18.1 24 0 2)), false)) rfl ?_
        refine zT.chk (t := (101, [some (zR 18 0), some (zI x1), some (zI 2), some (zI r16)], [zI (M18.1 24 0 2)], (z_w M18 25 0 2 (M18.1 24 0 2)), false)) rfl (by first | decide | (dsimp only; decide)) ?_
        refine zT.it 2 (t := (103, [some (zR 18 0), some (zI x1), some (zI 2), some (zI r16)], [zI 2, zI 2, zI (M18.1 24 0 2)], (z_w M18 25 0 2 (M18.1 24 0 2)), false)) rfl ?_
        refine zT.br (g := zr 2 ∧ zr 2) (p := ¬ 2 = 2) (t := (111, [some (zR 18 0), some (zI x1), some (zI 2), some (zI r16)], [zI (M18.1 24 0 2)], (z_w M18 25 0 2 (M18.1 24 0 2)), false)) (u := (106, [some (zR 18 0), some (zI x1), some (zI 2), some (zI r16)], [zI (M18.1 24 0 2)], (z_w M18 25 0 2 (M18.1 24 0 2)), false)) rfl (by decide) (fun c => absurd c (by decide)) (fun c => ?_)
        refine zT.it 2 (t := (114, [some (zR 18 0), some (zI x1), some (zI 2), some (zI r16)], [zI 99999, zI (M18.1 24 0 2)], (z_w M18 25 0 2 (M18.1 24 0 2)), false)) rfl ?_
        refine zT.br (g := zr (M18.1 24 0 2) ∧ zr 99999) (p := 99999 < (M18.1 24 0 2)) (t := (143, [some (zR 18 0), some (zI x1), some (zI 2), some (zI r16)], [], (z_w M18 25 0 2 (M18.1 24 0 2)), false)) (u := (117, [some (zR 18 0), some (zI x1), some (zI 2), some (zI r16)], [], (z_w M18 25 0 2 (M18.1 24 0 2)), false)) rfl h.1 (fun c => ?_) (fun c => ?_)
        · replace h := h.2.1 c
          refine zT.it 1 (t := (144, [some (zR 18 0), some (zI x1), some (zI 2), some (zI r16)], [zI 0], (z_w M18 25 0 2 (M18.1 24 0 2)), false)) rfl ?_
          exact h
        · replace h := h.2.2 c
          refine zT.it 3 (t := (122, [some (zR 18 0), some (zI x1), some (zI 2), some (zI r16)], [zI 2, zR 25 0], (z_w M18 25 0 2 (M18.1 24 0 2)), false)) rfl ?_
          refine zT.chk (t := (123, [some (zR 18 0), some (zI x1), some (zI 2), some (zI r16)], [zI (M18.1 24 0 2)], (z_w M18 25 0 2 (M18.1 24 0 2)), false)) rfl (by first | decide | (dsimp only; decide)) ?_
          refine zT.it 3 (t := (128, [some (zR 18 0), some (zI x1), some (zI 2), some (zI r16)], [zI 2, zR 24 0, zI (M18.1 24 0 2)], (z_w M18 25 0 2 (M18.1 24 0 2)), false)) rfl ?_
          refine zT.chk (t := (129, [some (zR 18 0), some (zI x1), some (zI 2), some (zI r16)], [zI (M18.1 24 0 2), zI (M18.1 24 0 2)], (z_w M18 25 0 2 (M18.1 24 0 2)), false)) rfl (by first | decide | (dsimp only; decide)) ?_
          refine zT.it 1 (t := (130, [some (zR 18 0), some (zI x1), some (zI 2), some (zI r16)], [zI ((M18.1 24 0 2) - (M18.1 24 0 2))], (z_w M18 25 0 2 (M18.1 24 0 2)), false)) rfl ?_
          refine zT.call (m := 59) (as := [zI ((M18.1 24 0 2) - (M18.1 24 0 2))]) (M := (z_w M18 25 0 2 (M18.1 24 0 2))) (L := [some (zR 18 0), some (zI x1), some (zI 2), some (zI r16)]) (st := []) (pn := 133) (cl := false) rfl ?_
          refine zF.mono h (fun v M21 h cl21 => ?_)
          obtain ⟨r21, e21, h⟩ := h; subst e21; replace h := h cl21
          show zT 60 (133, [some (zR 18 0), some (zI x1), some (zI 2), some (zI r16)], [zI r21], M21, cl21) _
          refine zT.it 1 (t := (136, [some (zR 18 0), some (zI x1), some (zI 2), some (zI r16)], [zI 500, zI r21], M21, cl21)) rfl ?_
          refine zT.br (g := zr r21 ∧ zr 500) (p := 500 < r21) (t := (143, [some (zR 18 0), some (zI x1), some (zI 2), some (zI r16)], [], M21, cl21)) (u := (139, [some (zR 18 0), some (zI x1), some (zI 2), some (zI r16)], [], M21, cl21)) rfl h.1 (fun c => ?_) (fun c => ?_)
          · replace h := h.2.1 c
            refine zT.it 1 (t := (144, [some (zR 18 0), some (zI x1), some (zI 2), some (zI r16)], [zI 0], M21, cl21)) rfl ?_
            exact h
          · replace h := h.2.2 c
            refine zT.it 2 (t := (144, [some (zR 18 0), some (zI x1), some (zI 2), some (zI r16)], [zI 1], M21, cl21)) rfl ?_
            exact h
theorem g60_4a3 {x1 : Int} {u3 : Option zV} {M : zM} {cl : Bool} {Q : zQ} (h : (x1 = 0 ∨ x1 = 1) ∧ Q (.inl (some (zI x1))) M cl 0) : zT 60 (4, [some (zR 18 0), some (zI x1), some (zI 3), u3], [], M, cl) Q := by
  refine zT.it 2 (t := (6, [some (zR 18 0), some (zI x1), some (zI 3), u3], [zI 3, zI 3], M, cl)) rfl ?_
  refine zT.br (g := zr 3 ∧ zr 3) (p := 3 ≤ 3) (t := (151, [some (zR 18 0), some (zI x1), some (zI 3), u3], [], M, cl)) (u := (9, [some (zR 18 0), some (zI x1), some (zI 3), u3], [], M, cl)) rfl (by decide) (fun c => ?_) (fun c => absurd (by decide) c)
  refine zT.it 1 (t := (152, [some (zR 18 0), some (zI x1), some (zI 3), u3], [zI x1], M, cl)) rfl ?_
  exact zT.ret (p := x1 = 0 ∨ x1 = 1) (v := some (zI x1)) rfl h.1 h.2
theorem g60_144a0 {x1 : Int} {x3 : Int} {s0 : Int} {M : zM} {cl : Bool} {Q : zQ} (h : zT 60 (4, [some (zR 18 0), some (zI s0), some (zI 1), some (zI x3)], [], M, cl) Q) : zT 60 (144, [some (zR 18 0), some (zI x1), some (zI 0), some (zI x3)], [zI s0], M, cl) Q := by
  refine zT.it 3 (t := (4, [some (zR 18 0), some (zI s0), some (zI 1), some (zI x3)], [], M, cl)) rfl ?_
  exact h
theorem g60_144a1 {x1 : Int} {x3 : Int} {s0 : Int} {M : zM} {cl : Bool} {Q : zQ} (h : zT 60 (4, [some (zR 18 0), some (zI s0), some (zI 2), some (zI x3)], [], M, cl) Q) : zT 60 (144, [some (zR 18 0), some (zI x1), some (zI 1), some (zI x3)], [zI s0], M, cl) Q := by
  refine zT.it 3 (t := (4, [some (zR 18 0), some (zI s0), some (zI 2), some (zI x3)], [], M, cl)) rfl ?_
  exact h
theorem g60_144a2 {x1 : Int} {x3 : Int} {s0 : Int} {M : zM} {cl : Bool} {Q : zQ} (h : zT 60 (4, [some (zR 18 0), some (zI s0), some (zI 3), some (zI x3)], [], M, cl) Q) : zT 60 (144, [some (zR 18 0), some (zI x1), some (zI 2), some (zI x3)], [zI s0], M, cl) Q := by
  refine zT.it 3 (t := (4, [some (zR 18 0), some (zI s0), some (zI 3), some (zI x3)], [], M, cl)) rfl ?_
  exact h
