-- what each piece of the program asks (written by gen/g.py out of the program itself)
theorem g145_307_32 {x4 : Int} {u5 : Option zV} {u6 : Option zV} {M : zM} {cl : Bool} {Q : zQ} (h : (z_wi (x4 + 1) M.2.2) ∧ (zG 102 [zR 0 0, zI (M.1 32 0 ((x4 + 1).toNat)), zR 31 0] M (fun v M13 d13 => ∃ r13 : Int, v = some (zI r13) ∧ ∀ cl13 : Bool, (z_wi (x4 + 1) M13.2.2) ∧ (zF 103 [zR 18 0, zI (M13.1 32 0 ((x4 + 1).toNat))] M13 (fun v M14 => ∃ r14 : Int, v = some (zI r14) ∧ ∀ cl14 : Bool, zF 64 [zR 18 0] M14 (fun v M15 => ∃ r15 : Int, v = some (zI r15) ∧ ∀ cl15 : Bool, (zr r15 ∧ zr r13) ∧ ((r15 = r13 → (zr r13) ∧ ((¬ r13 = 0 → zT 145 (33, [some (zR 32 0), some (zR 0 0), some (zR 18 0), some (zR 31 0), some (zI (x4 + 3)), some (zI r13), some (zI r14)], [], M15, cl15) (fun o m c e => Q o m c (d13 + e))) ∧ (r13 = 0 → (zr r14) ∧ ((zrl (M15.2.1 31 0 0) ∧ zrl r14) ∧ (((M15.2.1 31 0 0) = r14 → zT 145 (33, [some (zR 32 0), some (zR 0 0), some (zR 18 0), some (zR 31 0), some (zI (x4 + 3)), some (zI r13), some (zI r14)], [], M15, cl15) (fun o m c e => Q o m c (d13 + e))) ∧ (¬ ((M15.2.1 31 0 0) = r14) → (fun o m c e => Q o m c (d13 + e)) (.inl (some (zI 0))) M15 cl15 0)))))) ∧ (¬ (r15 = r13) → (fun o m c e => Q o m c (d13 + e)) (.inl (some (zI 0))) M15 cl15 0)))))))) : zT 145 (307, [some (zR 32 0), some (zR 0 0), some (zR 18 0), some (zR 31 0), some (zI x4), u5, u6], [], M, cl) Q := by
  refine zT.it 5 (t := (313, [some (zR 32 0), some (zR 0 0), some (zR 18 0), some (zR 31 0), some (zI x4), u5, u6], [zI (x4 + 1), zR 32 0, zR 0 0], M, cl)) rfl ?_
  refine zT.chk (p := z_wi (x4 + 1) M.2.2) (t := (314, [some (zR 32 0), some (zR 0 0), some (zR 18 0), some (zR 31 0), some (zI x4), u5, u6], [zI (M.1 32 0 ((x4 + 1).toNat)), zR 0 0], M, cl)) rfl h.1 ?_
  replace h := h.2
  refine zT.it 1 (t := (315, [some (zR 32 0), some (zR 0 0), some (zR 18 0), some (zR 31 0), some (zI x4), u5, u6], [zR 31 0, zI (M.1 32 0 ((x4 + 1).toNat)), zR 0 0], M, cl)) rfl ?_
  refine zT.callG (m := 102) (as := [zR 0 0, zI (M.1 32 0 ((x4 + 1).toNat)), zR 31 0]) (M := M) (L := [some (zR 32 0), some (zR 0 0), some (zR 18 0), some (zR 31 0), some (zI x4), u5, u6]) (st := []) (pn := 318) (cl := cl) rfl ?_
  refine zG.mono h (fun v M13 d13 h cl13 => ?_)
  obtain ⟨r13, e13, h⟩ := h; subst e13; replace h := h cl13
  show zT 145 (318, [some (zR 32 0), some (zR 0 0), some (zR 18 0), some (zR 31 0), some (zI x4), u5, u6], [zI r13], M13, cl13) _
  refine zT.it 6 (t := (326, [some (zR 32 0), some (zR 0 0), some (zR 18 0), some (zR 31 0), some (zI x4), some (zI r13), u6], [zI (x4 + 1), zR 32 0, zR 18 0], M13, cl13)) rfl ?_
  refine zT.chk (p := z_wi (x4 + 1) M13.2.2) (t := (327, [some (zR 32 0), some (zR 0 0), some (zR 18 0), some (zR 31 0), some (zI x4), some (zI r13), u6], [zI (M13.1 32 0 ((x4 + 1).toNat)), zR 18 0], M13, cl13)) rfl h.1 ?_
  replace h := h.2
  refine zT.call (m := 103) (as := [zR 18 0, zI (M13.1 32 0 ((x4 + 1).toNat))]) (M := M13) (L := [some (zR 32 0), some (zR 0 0), some (zR 18 0), some (zR 31 0), some (zI x4), some (zI r13), u6]) (st := []) (pn := 330) (cl := cl13) rfl ?_
  refine zF.mono h (fun v M14 h cl14 => ?_)
  obtain ⟨r14, e14, h⟩ := h; subst e14; replace h := h cl14
  show zT 145 (330, [some (zR 32 0), some (zR 0 0), some (zR 18 0), some (zR 31 0), some (zI x4), some (zI r13), u6], [zI r14], M14, cl14) _
  refine zT.it 2 (t := (333, [some (zR 32 0), some (zR 0 0), some (zR 18 0), some (zR 31 0), some (zI x4), some (zI r13), some (zI r14)], [zR 18 0], M14, cl14)) rfl ?_
  refine zT.call (m := 64) (as := [zR 18 0]) (M := M14) (L := [some (zR 32 0), some (zR 0 0), some (zR 18 0), some (zR 31 0), some (zI x4), some (zI r13), some (zI r14)]) (st := []) (pn := 336) (cl := cl14) rfl ?_
  refine zF.mono h (fun v M15 h cl15 => ?_)
  obtain ⟨r15, e15, h⟩ := h; subst e15; replace h := h cl15
  show zT 145 (336, [some (zR 32 0), some (zR 0 0), some (zR 18 0), some (zR 31 0), some (zI x4), some (zI r13), some (zI r14)], [zI r15], M15, cl15) _
  refine zT.it 1 (t := (338, [some (zR 32 0), some (zR 0 0), some (zR 18 0), some (zR 31 0), some (zI x4), some (zI r13), some (zI r14)], [zI r13, zI r15], M15, cl15)) rfl ?_
  refine zT.br (g := zr r15 ∧ zr r13) (p := r15 = r13) (t := (343, [some (zR 32 0), some (zR 0 0), some (zR 18 0), some (zR 31 0), some (zI x4), some (zI r13), some (zI r14)], [], M15, cl15)) (u := (341, [some (zR 32 0), some (zR 0 0), some (zR 18 0), some (zR 31 0), some (zI x4), some (zI r13), some (zI r14)], [], M15, cl15)) rfl h.1 (fun c => ?_) (fun c => ?_)
  · replace h := h.2.1 c
    refine zT.it 1 (t := (345, [some (zR 32 0), some (zR 0 0), some (zR 18 0), some (zR 31 0), some (zI x4), some (zI r13), some (zI r14)], [zI r13], M15, cl15)) rfl ?_
    refine zT.br (g := zr r13) (p := ¬ r13 = 0) (t := (360, [some (zR 32 0), some (zR 0 0), some (zR 18 0), some (zR 31 0), some (zI x4), some (zI r13), some (zI r14)], [], M15, cl15)) (u := (348, [some (zR 32 0), some (zR 0 0), some (zR 18 0), some (zR 31 0), some (zI x4), some (zI r13), some (zI r14)], [], M15, cl15)) rfl h.1 (fun c => ?_) (fun c => ?_)
    · replace h := h.2.1 c
      refine zT.it 3 (t := (33, [some (zR 32 0), some (zR 0 0), some (zR 18 0), some (zR 31 0), some (zI (x4 + 3)), some (zI r13), some (zI r14)], [], M15, cl15)) rfl ?_
      exact h
    · replace h := h.2.2 (Decidable.not_not.1 c)
      refine zT.it 2 (t := (350, [some (zR 32 0), some (zR 0 0), some (zR 18 0), some (zR 31 0), some (zI x4), some (zI r13), some (zI r14)], [zI 0, zR 31 0], M15, cl15)) rfl ?_
      refine zT.chk (t := (351, [some (zR 32 0), some (zR 0 0), some (zR 18 0), some (zR 31 0), some (zI x4), some (zI r13), some (zI r14)], [zJ (M15.2.1 31 0 0)], M15, cl15)) rfl (by first | decide | (dsimp only; decide)) ?_
      refine zT.it 1 (t := (353, [some (zR 32 0), some (zR 0 0), some (zR 18 0), some (zR 31 0), some (zI x4), some (zI r13), some (zI r14)], [zI r14, zJ (M15.2.1 31 0 0)], M15, cl15)) rfl ?_
      refine zT.chk (p := zr r14) (t := (354, [some (zR 32 0), some (zR 0 0), some (zR 18 0), some (zR 31 0), some (zI x4), some (zI r13), some (zI r14)], [zJ r14, zJ (M15.2.1 31 0 0)], M15, cl15)) rfl h.1 ?_
      replace h := h.2
      refine zT.chk (p := zrl (M15.2.1 31 0 0) ∧ zrl r14) (t := (355, [some (zR 32 0), some (zR 0 0), some (zR 18 0), some (zR 31 0), some (zI x4), some (zI r13), some (zI r14)], [zI (z_cmp (M15.2.1 31 0 0) r14)], M15, cl15)) rfl h.1 ?_
      replace h := h.2
      refine zT.br (t := (360, [some (zR 32 0), some (zR 0 0), some (zR 18 0), some (zR 31 0), some (zI x4), some (zI r13), some (zI r14)], [], M15, cl15)) (u := (358, [some (zR 32 0), some (zR 0 0), some (zR 18 0), some (zR 31 0), some (zI x4), some (zI r13), some (zI r14)], [], M15, cl15)) rfl (z_cmp_r _ _) (fun c => ?_) (fun c => ?_)
      · replace h := h.1 (z_cmp_eq.1 c)
        refine zT.it 3 (t := (33, [some (zR 32 0), some (zR 0 0), some (zR 18 0), some (zR 31 0), some (zI (x4 + 3)), some (zI r13), some (zI r14)], [], M15, cl15)) rfl ?_
        exact h
      · replace h := h.2 (fun d => c (z_cmp_eq.2 d))
        refine zT.it 1 (t := (359, [some (zR 32 0), some (zR 0 0), some (zR 18 0), some (zR 31 0), some (zI x4), some (zI r13), some (zI r14)], [zI 0], M15, cl15)) rfl ?_
        exact zT.ret (v := some (zI 0)) rfl (by first | exact trivial | decide) h
  · replace h := h.2.2 c
    refine zT.it 1 (t := (342, [some (zR 32 0), some (zR 0 0), some (zR 18 0), some (zR 31 0), some (zI x4), some (zI r13), some (zI r14)], [zI 0], M15, cl15)) rfl ?_
    exact zT.ret (v := some (zI 0)) rfl (by first | exact trivial | decide) h
theorem g145_363_32 {x4 : Int} {u5 : Option zV} {u6 : Option zV} {M : zM} {cl : Bool} {Q : zQ} (h : (z_wi (x4 + 1) M.2.2) ∧ (zG 106 [zR 0 0, zI (M.1 32 0 ((x4 + 1).toNat)), zR 31 0] M (fun v M16 d16 => ∃ r16 : Int, v = some (zI r16) ∧ ∀ cl16 : Bool, (z_wi (x4 + 1) M16.2.2) ∧ (zF 107 [zR 18 0, zI (M16.1 32 0 ((x4 + 1).toNat))] M16 (fun v M17 => ∃ r17 : Int, v = some (zI r17) ∧ ∀ cl17 : Bool, zF 64 [zR 18 0] M17 (fun v M18 => ∃ r18 : Int, v = some (zI r18) ∧ ∀ cl18 : Bool, (zr r18 ∧ zr r16) ∧ ((r18 = r16 → (zr r16) ∧ ((¬ r16 = 0 → zT 145 (33, [some (zR 32 0), some (zR 0 0), some (zR 18 0), some (zR 31 0), some (zI (x4 + 3)), some (zI r16), some (zI r17)], [], M18, cl18) (fun o m c e => Q o m c (d16 + e))) ∧ (r16 = 0 → (zr r17) ∧ ((zrl (M18.2.1 31 0 0) ∧ zrl r17) ∧ (((M18.2.1 31 0 0) = r17 → zT 145 (33, [some (zR 32 0), some (zR 0 0), some (zR 18 0), some (zR 31 0), some (zI (x4 + 3)), some (zI r16), some (zI r17)], [], M18, cl18) (fun o m c e => Q o m c (d16 + e))) ∧ (¬ ((M18.2.1 31 0 0) = r17) → (fun o m c e => Q o m c (d16 + e)) (.inl (some (zI 0))) M18 cl18 0)))))) ∧ (¬ (r18 = r16) → (fun o m c e => Q o m c (d16 + e)) (.inl (some (zI 0))) M18 cl18 0)))))))) : zT 145 (363, [some (zR 32 0), some (zR 0 0), some (zR 18 0), some (zR 31 0), some (zI x4), u5, u6], [], M, cl) Q := by
  refine zT.it 5 (t := (369, [some (zR 32 0), some (zR 0 0), some (zR 18 0), some (zR 31 0), some (zI x4), u5, u6], [zI (x4 + 1), zR 32 0, zR 0 0], M, cl)) rfl ?_
  refine zT.chk (p := z_wi (x4 + 1) M.2.2) (t := (370, [some (zR 32 0), some (zR 0 0), some (zR 18 0), some (zR 31 0), some (zI x4), u5, u6], [zI (M.1 32 0 ((x4 + 1).toNat)), zR 0 0], M, cl)) rfl h.1 ?_
  replace h := h.2
  refine zT.it 1 (t := (371, [some (zR 32 0), some (zR 0 0), some (zR 18 0), some (zR 31 0), some (zI x4), u5, u6], [zR 31 0, zI (M.1 32 0 ((x4 + 1).toNat)), zR 0 0], M, cl)) rfl ?_
  refine zT.callG (m := 106) (as := [zR 0 0, zI (M.1 32 0 ((x4 + 1).toNat)), zR 31 0]) (M := M) (L := [some (zR 32 0), some (zR 0 0), some (zR 18 0), some (zR 31 0), some (zI x4), u5, u6]) (st := []) (pn := 374) (cl := cl) rfl ?_
  refine zG.mono h (fun v M16 d16 h cl16 => ?_)
  obtain ⟨r16, e16, h⟩ := h; subst e16; replace h := h cl16
  show zT 145 (374, [some (zR 32 0), some (zR 0 0), some (zR 18 0), some (zR 31 0), some (zI x4), u5, u6], [zI r16], M16, cl16) _
  refine zT.it 6 (t := (382, [some (zR 32 0), some (zR 0 0), some (zR 18 0), some (zR 31 0), some (zI x4), some (zI r16), u6], [zI (x4 + 1), zR 32 0, zR 18 0], M16, cl16)) rfl ?_
  refine zT.chk (p := z_wi (x4 + 1) M16.2.2) (t := (383, [some (zR 32 0), some (zR 0 0), some (zR 18 0), some (zR 31 0), some (zI x4), some (zI r16), u6], [zI (M16.1 32 0 ((x4 + 1).toNat)), zR 18 0], M16, cl16)) rfl h.1 ?_
  replace h := h.2
  refine zT.call (m := 107) (as := [zR 18 0, zI (M16.1 32 0 ((x4 + 1).toNat))]) (M := M16) (L := [some (zR 32 0), some (zR 0 0), some (zR 18 0), some (zR 31 0), some (zI x4), some (zI r16), u6]) (st := []) (pn := 386) (cl := cl16) rfl ?_
  refine zF.mono h (fun v M17 h cl17 => ?_)
  obtain ⟨r17, e17, h⟩ := h; subst e17; replace h := h cl17
  show zT 145 (386, [some (zR 32 0), some (zR 0 0), some (zR 18 0), some (zR 31 0), some (zI x4), some (zI r16), u6], [zI r17], M17, cl17) _
  refine zT.it 2 (t := (389, [some (zR 32 0), some (zR 0 0), some (zR 18 0), some (zR 31 0), some (zI x4), some (zI r16), some (zI r17)], [zR 18 0], M17, cl17)) rfl ?_
  refine zT.call (m := 64) (as := [zR 18 0]) (M := M17) (L := [some (zR 32 0), some (zR 0 0), some (zR 18 0), some (zR 31 0), some (zI x4), some (zI r16), some (zI r17)]) (st := []) (pn := 392) (cl := cl17) rfl ?_
  refine zF.mono h (fun v M18 h cl18 => ?_)
  obtain ⟨r18, e18, h⟩ := h; subst e18; replace h := h cl18
  show zT 145 (392, [some (zR 32 0), some (zR 0 0), some (zR 18 0), some (zR 31 0), some (zI x4), some (zI r16), some (zI r17)], [zI r18], M18, cl18) _
  refine zT.it 1 (t := (394, [some (zR 32 0), some (zR 0 0), some (zR 18 0), some (zR 31 0), some (zI x4), some (zI r16), some (zI r17)], [zI r16, zI r18], M18, cl18)) rfl ?_
  refine zT.br (g := zr r18 ∧ zr r16) (p := r18 = r16) (t := (399, [some (zR 32 0), some (zR 0 0), some (zR 18 0), some (zR 31 0), some (zI x4), some (zI r16), some (zI r17)], [], M18, cl18)) (u := (397, [some (zR 32 0), some (zR 0 0), some (zR 18 0), some (zR 31 0), some (zI x4), some (zI r16), some (zI r17)], [], M18, cl18)) rfl h.1 (fun c => ?_) (fun c => ?_)
  · replace h := h.2.1 c
    refine zT.it 1 (t := (401, [some (zR 32 0), some (zR 0 0), some (zR 18 0), some (zR 31 0), some (zI x4), some (zI r16), some (zI r17)], [zI r16], M18, cl18)) rfl ?_
    refine zT.br (g := zr r16) (p := ¬ r16 = 0) (t := (416, [some (zR 32 0), some (zR 0 0), some (zR 18 0), some (zR 31 0), some (zI x4), some (zI r16), some (zI r17)], [], M18, cl18)) (u := (404, [some (zR 32 0), some (zR 0 0), some (zR 18 0), some (zR 31 0), some (zI x4), some (zI r16), some (zI r17)], [], M18, cl18)) rfl h.1 (fun c => ?_) (fun c => ?_)
    · replace h := h.2.1 c
      refine zT.it 3 (t := (33, [some (zR 32 0), some (zR 0 0), some (zR 18 0), some (zR 31 0), some (zI (x4 + 3)), some (zI r16), some (zI r17)], [], M18, cl18)) rfl ?_
      exact h
    · replace h := h.2.2 (Decidable.not_not.1 c)
      refine zT.it 2 (t := (406, [some (zR 32 0), some (zR 0 0), some (zR 18 0), some (zR 31 0), some (zI x4), some (zI r16), some (zI r17)], [zI 0, zR 31 0], M18, cl18)) rfl ?_
      refine zT.chk (t := (407, [some (zR 32 0), some (zR 0 0), some (zR 18 0), some (zR 31 0), some (zI x4), some (zI r16), some (zI r17)], [zJ (M18.2.1 31 0 0)], M18, cl18)) rfl (by first | decide | (dsimp only; decide)) ?_
      refine zT.it 1 (t := (409, [some (zR 32 0), some (zR 0 0), some (zR 18 0), some (zR 31 0), some (zI x4), some (zI r16), some (zI r17)], [zI r17, zJ (M18.2.1 31 0 0)], M18, cl18)) rfl ?_
      refine zT.chk (p := zr r17) (t := (410, [some (zR 32 0), some (zR 0 0), some (zR 18 0), some (zR 31 0), some (zI x4), some (zI r16), some (zI r17)], [zJ r17, zJ (M18.2.1 31 0 0)], M18, cl18)) rfl h.1 ?_
      replace h := h.2
      refine zT.chk (p := zrl (M18.2.1 31 0 0) ∧ zrl r17) (t := (411, [some (zR 32 0), some (zR 0 0), some (zR 18 0), some (zR 31 0), some (zI x4), some (zI r16), some (zI r17)], [zI (z_cmp (M18.2.1 31 0 0) r17)], M18, cl18)) rfl h.1 ?_
      replace h := h.2
      refine zT.br (t := (416, [some (zR 32 0), some (zR 0 0), some (zR 18 0), some (zR 31 0), some (zI x4), some (zI r16), some (zI r17)], [], M18, cl18)) (u := (414, [some (zR 32 0), some (zR 0 0), some (zR 18 0), some (zR 31 0), some (zI x4), some (zI r16), some (zI r17)], [], M18, cl18)) rfl (z_cmp_r _ _) (fun c => ?_) (fun c => ?_)
      · replace h := h.1 (z_cmp_eq.1 c)
        refine zT.it 3 (t := (33, [some (zR 32 0), some (zR 0 0), some (zR 18 0), some (zR 31 0), some (zI (x4 + 3)), some (zI r16), some (zI r17)], [], M18, cl18)) rfl ?_
        exact h
      · replace h := h.2 (fun d => c (z_cmp_eq.2 d))
        refine zT.it 1 (t := (415, [some (zR 32 0), some (zR 0 0), some (zR 18 0), some (zR 31 0), some (zI x4), some (zI r16), some (zI r17)], [zI 0], M18, cl18)) rfl ?_
        exact zT.ret (v := some (zI 0)) rfl (by first | exact trivial | decide) h
  · replace h := h.2.2 c
    refine zT.it 1 (t := (398, [some (zR 32 0), some (zR 0 0), some (zR 18 0), some (zR 31 0), some (zI x4), some (zI r16), some (zI r17)], [zI 0], M18, cl18)) rfl ?_
    exact zT.ret (v := some (zI 0)) rfl (by first | exact trivial | decide) h
theorem g145_419_32 {x4 : Int} {u5 : Option zV} {u6 : Option zV} {M : zM} {cl : Bool} {Q : zQ} (h : (z_wi (x4 + 1) M.2.2) ∧ (zG 109 [zR 0 0, zI (M.1 32 0 ((x4 + 1).toNat)), zR 31 0] M (fun v M19 d19 => ∃ r19 : Int, v = some (zI r19) ∧ ∀ cl19 : Bool, (z_wi (x4 + 1) M19.2.2) ∧ (zF 110 [zR 18 0, zI (M19.1 32 0 ((x4 + 1).toNat))] M19 (fun v M20 => ∃ r20 : Int, v = some (zI r20) ∧ ∀ cl20 : Bool, zF 64 [zR 18 0] M20 (fun v M21 => ∃ r21 : Int, v = some (zI r21) ∧ ∀ cl21 : Bool, (zr r21 ∧ zr r19) ∧ ((r21 = r19 → (zr r19) ∧ ((¬ r19 = 0 → zT 145 (33, [some (zR 32 0), some (zR 0 0), some (zR 18 0), some (zR 31 0), some (zI (x4 + 3)), some (zI r19), some (zI r20)], [], M21, cl21) (fun o m c e => Q o m c (d19 + e))) ∧ (r19 = 0 → (zr r20) ∧ ((zrl (M21.2.1 31 0 0) ∧ zrl r20) ∧ (((M21.2.1 31 0 0) = r20 → zT 145 (33, [some (zR 32 0), some (zR 0 0), some (zR 18 0), some (zR 31 0), some (zI (x4 + 3)), some (zI r19), some (zI r20)], [], M21, cl21) (fun o m c e => Q o m c (d19 + e))) ∧ (¬ ((M21.2.1 31 0 0) = r20) → (fun o m c e => Q o m c (d19 + e)) (.inl (some (zI 0))) M21 cl21 0)))))) ∧ (¬ (r21 = r19) → (fun o m c e => Q o m c (d19 + e)) (.inl (some (zI 0))) M21 cl21 0)))))))) : zT 145 (419, [some (zR 32 0), some (zR 0 0), some (zR 18 0), some (zR 31 0), some (zI x4), u5, u6], [], M, cl) Q := by
  refine zT.it 5 (t := (425, [some (zR 32 0), some (zR 0 0), some (zR 18 0), some (zR 31 0), some (zI x4), u5, u6], [zI (x4 + 1), zR 32 0, zR 0 0], M, cl)) rfl ?_
  refine zT.chk (p := z_wi (x4 + 1) M.2.2) (t := (426, [some (zR 32 0), some (zR 0 0), some (zR 18 0), some (zR 31 0), some (zI x4), u5, u6], [zI (M.1 32 0 ((x4 + 1).toNat)), zR 0 0], M, cl)) rfl h.1 ?_
  replace h := h.2
  refine zT.it 1 (t := (427, [some (zR 32 0), some (zR 0 0), some (zR 18 0), some (zR 31 0), some (zI x4), u5, u6], [zR 31 0, zI (M.1 32 0 ((x4 + 1).toNat)), zR 0 0], M, cl)) rfl ?_
  refine zT.callG (m := 109) (as := [zR 0 0, zI (M.1 32 0 ((x4 + 1).toNat)), zR 31 0]) (M := M) (L := [some (zR 32 0), some (zR 0 0), some (zR 18 0), some (zR 31 0), some (zI x4), u5, u6]) (st := []) (pn := 430) (cl := cl) rfl ?_
  refine zG.mono h (fun v M19 d19 h cl19 => ?_)
  obtain ⟨r19, e19, h⟩ := h; subst e19; replace h := h cl19
  show zT 145 (430, [some (zR 32 0), some (zR 0 0), some (zR 18 0), some (zR 31 0), some (zI x4), u5, u6], [zI r19], M19, cl19) _
  refine zT.it 6 (t := (438, [some (zR 32 0), some (zR 0 0), some (zR 18 0), some (zR 31 0), some (zI x4), some (zI r19), u6], [zI (x4 + 1), zR 32 0, zR 18 0], M19, cl19)) rfl ?_
  refine zT.chk (p := z_wi (x4 + 1) M19.2.2) (t := (439, [some (zR 32 0), some (zR 0 0), some (zR 18 0), some (zR 31 0), some (zI x4), some (zI r19), u6], [zI (M19.1 32 0 ((x4 + 1).toNat)), zR 18 0], M19, cl19)) rfl h.1 ?_
  replace h := h.2
  refine zT.call (m := 110) (as := [zR 18 0, zI (M19.1 32 0 ((x4 + 1).toNat))]) (M := M19) (L := [some (zR 32 0), some (zR 0 0), some (zR 18 0), some (zR 31 0), some (zI x4), some (zI r19), u6]) (st := []) (pn := 442) (cl := cl19) rfl ?_
  refine zF.mono h (fun v M20 h cl20 => ?_)
  obtain ⟨r20, e20, h⟩ := h; subst e20; replace h := h cl20
  show zT 145 (442, [some (zR 32 0), some (zR 0 0), some (zR 18 0), some (zR 31 0), some (zI x4), some (zI r19), u6], [zI r20], M20, cl20) _
  refine zT.it 2 (t := (445, [some (zR 32 0), some (zR 0 0), some (zR 18 0), some (zR 31 0), some (zI x4), some (zI r19), some (zI r20)], [zR 18 0], M20, cl20)) rfl ?_
  refine zT.call (m := 64) (as := [zR 18 0]) (M := M20) (L := [some (zR 32 0), some (zR 0 0), some (zR 18 0), some (zR 31 0), some (zI x4), some (zI r19), some (zI r20)]) (st := []) (pn := 448) (cl := cl20) rfl ?_
  refine zF.mono h (fun v M21 h cl21 => ?_)
  obtain ⟨r21, e21, h⟩ := h; subst e21; replace h := h cl21
  show zT 145 (448, [some (zR 32 0), some (zR 0 0), some (zR 18 0), some (zR 31 0), some (zI x4), some (zI r19), some (zI r20)], [zI r21], M21, cl21) _
  refine zT.it 1 (t := (450, [some (zR 32 0), some (zR 0 0), some (zR 18 0), some (zR 31 0), some (zI x4), some (zI r19), some (zI r20)], [zI r19, zI r21], M21, cl21)) rfl ?_
  refine zT.br (g := zr r21 ∧ zr r19) (p := r21 = r19) (t := (455, [some (zR 32 0), some (zR 0 0), some (zR 18 0), some (zR 31 0), some (zI x4), some (zI r19), some (zI r20)], [], M21, cl21)) (u := (453, [some (zR 32 0), some (zR 0 0), some (zR 18 0), some (zR 31 0), some (zI x4), some (zI r19), some (zI r20)], [], M21, cl21)) rfl h.1 (fun c => ?_) (fun c => ?_)
  · replace h := h.2.1 c
    refine zT.it 1 (t := (457, [some (zR 32 0), some (zR 0 0), some (zR 18 0), some (zR 31 0), some (zI x4), some (zI r19), some (zI r20)], [zI r19], M21, cl21)) rfl ?_
    refine zT.br (g := zr r19) (p := ¬ r19 = 0) (t := (472, [some (zR 32 0), some (zR 0 0), some (zR 18 0), some (zR 31 0), some (zI x4), some (zI r19), some (zI r20)], [], M21, cl21)) (u := (460, [some (zR 32 0), some (zR 0 0), some (zR 18 0), some (zR 31 0), some (zI x4), some (zI r19), some (zI r20)], [], M21, cl21)) rfl h.1 (fun c => ?_) (fun c => ?_)
    · replace h := h.2.1 c
      refine zT.it 3 (t := (33, [some (zR 32 0), some (zR 0 0), some (zR 18 0), some (zR 31 0), some (zI (x4 + 3)), some (zI r19), some (zI r20)], [], M21, cl21)) rfl ?_
      exact h
    · replace h := h.2.2 (Decidable.not_not.1 c)
      refine zT.it 2 (t := (462, [some (zR 32 0), some (zR 0 0), some (zR 18 0), some (zR 31 0), some (zI x4), some (zI r19), some (zI r20)], [zI 0, zR 31 0], M21, cl21)) rfl ?_
      refine zT.chk (t := (463, [some (zR 32 0), some (zR 0 0), some (zR 18 0), some (zR 31 0), some (zI x4), some (zI r19), some (zI r20)], [zJ (M21.2.1 31 0 0)], M21, cl21)) rfl (by first | decide | (dsimp only; decide)) ?_
      refine zT.it 1 (t := (465, [some (zR 32 0), some (zR 0 0), some (zR 18 0), some (zR 31 0), some (zI x4), some (zI r19), some (zI r20)], [zI r20, zJ (M21.2.1 31 0 0)], M21, cl21)) rfl ?_
      refine zT.chk (p := zr r20) (t := (466, [some (zR 32 0), some (zR 0 0), some (zR 18 0), some (zR 31 0), some (zI x4), some (zI r19), some (zI r20)], [zJ r20, zJ (M21.2.1 31 0 0)], M21, cl21)) rfl h.1 ?_
      replace h := h.2
      refine zT.chk (p := zrl (M21.2.1 31 0 0) ∧ zrl r20) (t := (467, [some (zR 32 0), some (zR 0 0), some (zR 18 0), some (zR 31 0), some (zI x4), some (zI r19), some (zI r20)], [zI (z_cmp (M21.2.1 31 0 0) r20)], M21, cl21)) rfl h.1 ?_
      replace h := h.2
      refine zT.br (t := (472, [some (zR 32 0), some (zR 0 0), some (zR 18 0), some (zR 31 0), some (zI x4), some (zI r19), some (zI r20)], [], M21, cl21)) (u := (470, [some (zR 32 0), some (zR 0 0), some (zR 18 0), some (zR 31 0), some (zI x4), some (zI r19), some (zI r20)], [], M21, cl21)) rfl (z_cmp_r _ _) (fun c => ?_) (fun c => ?_)
      · replace h := h.1 (z_cmp_eq.1 c)
        refine zT.it 3 (t := (33, [some (zR 32 0), some (zR 0 0), some (zR 18 0), some (zR 31 0), some (zI (x4 + 3)), some (zI r19), some (zI r20)], [], M21, cl21)) rfl ?_
        exact h
      · replace h := h.2 (fun d => c (z_cmp_eq.2 d))
        refine zT.it 1 (t := (471, [some (zR 32 0), some (zR 0 0), some (zR 18 0), some (zR 31 0), some (zI x4), some (zI r19), some (zI r20)], [zI 0], M21, cl21)) rfl ?_
        exact zT.ret (v := some (zI 0)) rfl (by first | exact trivial | decide) h
  · replace h := h.2.2 c
    refine zT.it 1 (t := (454, [some (zR 32 0), some (zR 0 0), some (zR 18 0), some (zR 31 0), some (zI x4), some (zI r19), some (zI r20)], [zI 0], M21, cl21)) rfl ?_
    exact zT.ret (v := some (zI 0)) rfl (by first | exact trivial | decide) h
theorem g145_475_32 {x4 : Int} {u5 : Option zV} {u6 : Option zV} {M : zM} {cl : Bool} {Q : zQ} (h : zF 111 [zR 0 0] M (fun v M22 => ∃ r22 : Int, v = some (zI r22) ∧ ∀ cl22 : Bool, zF 112 [zR 18 0] M22 (fun v M23 => ∃ r23 : Int, v = some (zI r23) ∧ ∀ cl23 : Bool, (zr r22 ∧ zr r23) ∧ ((r22 = r23 → zT 145 (33, [some (zR 32 0), some (zR 0 0), some (zR 18 0), some (zR 31 0), some (zI (x4 + 3)), u5, u6], [], M23, cl23) Q) ∧ (¬ (r22 = r23) → Q (.inl (some (zI 0))) M23 cl23 0))))) : zT 145 (475, [some (zR 32 0), some (zR 0 0), some (zR 18 0), some (zR 31 0), some (zI x4), u5, u6], [], M, cl) Q := by
  refine zT.it 1 (t := (476, [some (zR 32 0), some (zR 0 0), some (zR 18 0), some (zR 31 0), some (zI x4), u5, u6], [zR 0 0], M, cl)) rfl ?_
  refine zT.call (m := 111) (as := [zR 0 0]) (M := M) (L := [some (zR 32 0), some (zR 0 0), some (zR 18 0), some (zR 31 0), some (zI x4), u5, u6]) (st := []) (pn := 479) (cl := cl) rfl ?_
  refine zF.mono h (fun v M22 h cl22 => ?_)
  obtain ⟨r22, e22, h⟩ := h; subst e22; replace h := h cl22
  show zT 145 (479, [some (zR 32 0), some (zR 0 0), some (zR 18 0), some (zR 31 0), some (zI x4), u5, u6], [zI r22], M22, cl22) _
  refine zT.it 1 (t := (480, [some (zR 32 0), some (zR 0 0), some (zR 18 0), some (zR 31 0), some (zI x4), u5, u6], [zR 18 0, zI r22], M22, cl22)) rfl ?_
  refine zT.call (m := 112) (as := [zR 18 0]) (M := M22) (L := [some (zR 32 0), some (zR 0 0), some (zR 18 0), some (zR 31 0), some (zI x4), u5, u6]) (st := [zI r22]) (pn := 483) (cl := cl22) rfl ?_
  refine zF.mono h (fun v M23 h cl23 => ?_)
  obtain ⟨r23, e23, h⟩ := h; subst e23; replace h := h cl23
  show zT 145 (483, [some (zR 32 0), some (zR 0 0), some (zR 18 0), some (zR 31 0), some (zI x4), u5, u6], [zI r23, zI r22], M23, cl23) _
  refine zT.br (g := zr r22 ∧ zr r23) (p := r22 = r23) (t := (888, [some (zR 32 0), some (zR 0 0), some (zR 18 0), some (zR 31 0), some (zI x4), u5, u6], [], M23, cl23)) (u := (486, [some (zR 32 0), some (zR 0 0), some (zR 18 0), some (zR 31 0), some (zI x4), u5, u6], [], M23, cl23)) rfl h.1 (fun c => ?_) (fun c => ?_)
  · replace h := h.2.1 c
    refine zT.it 2 (t := (33, [some (zR 32 0), some (zR 0 0), some (zR 18 0), some (zR 31 0), some (zI (x4 + 3)), u5, u6], [], M23, cl23)) rfl ?_
    exact h
  · replace h := h.2.2 c
    refine zT.it 1 (t := (487, [some (zR 32 0), some (zR 0 0), some (zR 18 0), some (zR 31 0), some (zI x4), u5, u6], [zI 0], M23, cl23)) rfl ?_
    exact zT.ret (v := some (zI 0)) rfl (by first | exact trivial | decide) h
theorem g145_488_32 {x4 : Int} {u5 : Option zV} {u6 : Option zV} {M : zM} {cl : Bool} {Q : zQ} (h : (z_wi (x4 + 1) M.2.2) ∧ ((z_wi (x4 + 2) M.2.2) ∧ (zG 114 [zR 0 0, zI (M.1 32 0 ((x4 + 1).toNat)), zI (M.1 32 0 ((x4 + 2).toNat)), zR 31 0] M (fun v M24 d24 => ∃ r24 : Int, v = some (zI r24) ∧ ∀ cl24 : Bool, (z_wi (x4 + 1) M24.2.2) ∧ ((z_wi (x4 + 2) M24.2.2) ∧ (zF 116 [zR 18 0, zI (M24.1 32 0 ((x4 + 1).toNat)), zI (M24.1 32 0 ((x4 + 2).toNat))] M24 (fun v M25 => ∃ r25 : Int, v = some (zI r25) ∧ ∀ cl25 : Bool, zF 64 [zR 18 0] M25 (fun v M26 => ∃ r26 : Int, v = some (zI r26) ∧ ∀ cl26 : Bool, (zr r26 ∧ zr r24) ∧ ((r26 = r24 → (zr r24) ∧ ((¬ r24 = 0 → zT 145 (33, [some (zR 32 0), some (zR 0 0), some (zR 18 0), some (zR 31 0), some (zI (x4 + 3)), some (zI r24), some (zI r25)], [], M26, cl26) (fun o m c e => Q o m c (d24 + e))) ∧ (r24 = 0 → (zr r25) ∧ ((zrl (M26.2.1 31 0 0) ∧ zrl r25) ∧ (((M26.2.1 31 0 0) = r25 → zT 145 (33, [some (zR 32 0), some (zR 0 0), some (zR 18 0), some (zR 31 0), some (zI (x4 + 3)), some (zI r24), some (zI r25)], [], M26, cl26) (fun o m c e => Q o m c (d24 + e))) ∧ (¬ ((M26.2.1 31 0 0) = r25) → (fun o m c e => Q o m c (d24 + e)) (.inl (some (zI 0))) M26 cl26 0)))))) ∧ (¬ (r26 = r24) → (fun o m c e => Q o m c (d24 + e)) (.inl (some (zI 0))) M26 cl26 0)))))))))) : zT 145 (488, [some (zR 32 0), some (zR 0 0), some (zR 18 0), some (zR 31 0), some (zI x4), u5, u6], [], M, cl) Q := by
  refine zT.it 5 (t := (494, [some (zR 32 0), some (zR 0 0), some (zR 18 0), some (zR 31 0), some (zI x4), u5, u6], [zI (x4 + 1), zR 32 0, zR 0 0], M, cl)) rfl ?_
  refine zT.chk (p := z_wi (x4 + 1) M.2.2) (t := (495, [some (zR 32 0), some (zR 0 0), some (zR 18 0), some (zR 31 0), some (zI x4), u5, u6], [zI (M.1 32 0 ((x4 + 1).toNat)), zR 0 0], M, cl)) rfl h.1 ?_
  replace h := h.2
  refine zT.it 4 (t := (500, [some (zR 32 0), some (zR 0 0), some (zR 18 0), some (zR 31 0), some (zI x4), u5, u6], [zI (x4 + 2), zR 32 0, zI (M.1 32 0 ((x4 + 1).toNat)), zR 0 0], M, cl)) rfl ?_
  refine zT.chk (p := z_wi (x4 + 2) M.2.2) (t := (501, [some (zR 32 0), some (zR 0 0), some (zR 18 0), some (zR 31 0), some (zI x4), u5, u6], [zI (M.1 32 0 ((x4 + 2).toNat)), zI (M.1 32 0 ((x4 + 1).toNat)), zR 0 0], M, cl)) rfl h.1 ?_
  replace h := h.2
  refine zT.it 1 (t := (502, [some (zR 32 0), some (zR 0 0), some (zR 18 0), some (zR 31 0), some (zI x4), u5, u6], [zR 31 0, zI (M.1 32 0 ((x4 + 2).toNat)), zI (M.1 32 0 ((x4 + 1).toNat)), zR 0 0], M, cl)) rfl ?_
  refine zT.callG (m := 114) (as := [zR 0 0, zI (M.1 32 0 ((x4 + 1).toNat)), zI (M.1 32 0 ((x4 + 2).toNat)), zR 31 0]) (M := M) (L := [some (zR 32 0), some (zR 0 0), some (zR 18 0), some (zR 31 0), some (zI x4), u5, u6]) (st := []) (pn := 505) (cl := cl) rfl ?_
  refine zG.mono h (fun v M24 d24 h cl24 => ?_)
  obtain ⟨r24, e24, h⟩ := h; subst e24; replace h := h cl24
  show zT 145 (505, [some (zR 32 0), some (zR 0 0), some (zR 18 0), some (zR 31 0), some (zI x4), u5, u6], [zI r24], M24, cl24) _
  refine zT.it 6 (t := (513, [some (zR 32 0), some (zR 0 0), some (zR 18 0), some (zR 31 0), some (zI x4), some (zI r24), u6], [zI (x4 + 1), zR 32 0, zR 18 0], M24, cl24)) rfl ?_
  refine zT.chk (p := z_wi (x4 + 1) M24.2.2) (t := (514, [some (zR 32 0), some (zR 0 0), some (zR 18 0), some (zR 31 0), some (zI x4), some (zI r24), u6], [zI (M24.1 32 0 ((x4 + 1).toNat)), zR 18 0], M24, cl24)) rfl h.1 ?_
  replace h := h.2
  refine zT.it 4 (t := (519, [some (zR 32 0), some (zR 0 0), some (zR 18 0), some (zR 31 0), some (zI x4), some (zI r24), u6], [zI (x4 + 2), zR 32 0, zI (M24.1 32 0 ((x4 + 1).toNat)), zR 18 0], M24, cl24)) rfl ?_
  refine zT.chk (p := z_wi (x4 + 2) M24.2.2) (t := (520, [some (zR 32 0), some (zR 0 0), some (zR 18 0), some (zR 31 0), some (zI x4), some (zI r24), u6], [zI (M24.1 32 0 ((x4 + 2).toNat)), zI (M24.1 32 0 ((x4 + 1).toNat)), zR 18 0], M24, cl24)) rfl h.1 ?_
  replace h := h.2
  refine zT.call (m := 116) (as := [zR 18 0, zI (M24.1 32 0 ((x4 + 1).toNat)), zI (M24.1 32 0 ((x4 + 2).toNat))]) (M := M24) (L := [some (zR 32 0), some (zR 0 0), some (zR 18 0), some (zR 31 0), some (zI x4), some (zI r24), u6]) (st := []) (pn := 523) (cl := cl24) rfl ?_
  refine zF.mono h (fun v M25 h cl25 => ?_)
  obtain ⟨r25, e25, h⟩ := h; subst e25; replace h := h cl25
  show zT 145 (523, [some (zR 32 0), some (zR 0 0), some (zR 18 0), some (zR 31 0), some (zI x4), some (zI r24), u6], [zI r25], M25, cl25) _
  refine zT.it 2 (t := (526, [some (zR 32 0), some (zR 0 0), some (zR 18 0), some (zR 31 0), some (zI x4), some (zI r24), some (zI r25)], [zR 18 0], M25, cl25)) rfl ?_
  refine zT.call (m := 64) (as := [zR 18 0]) (M := M25) (L := [some (zR 32 0), some (zR 0 0), some (zR 18 0), some (zR 31 0), some (zI x4), some (zI r24), some (zI r25)]) (st := []) (pn := 529) (cl := cl25) rfl ?_
  refine zF.mono h (fun v M26 h cl26 => ?_)
  obtain ⟨r26, e26, h⟩ := h; subst e26; replace h := h cl26
  show zT 145 (529, [some (zR 32 0), some (zR 0 0), some (zR 18 0), some (zR 31 0), some (zI x4), some (zI r24), some (zI r25)], [zI r26], M26, cl26) _
  refine zT.it 1 (t := (531, [some (zR 32 0), some (zR 0 0), some (zR 18 0), some (zR 31 0), some (zI x4), some (zI r24), some (zI r25)], [zI r24, zI r26], M26, cl26)) rfl ?_
  refine zT.br (g := zr r26 ∧ zr r24) (p := r26 = r24) (t := (536, [some (zR 32 0), some (zR 0 0), some (zR 18 0), some (zR 31 0), some (zI x4), some (zI r24), some (zI r25)], [], M26, cl26)) (u := (534, [some (zR 32 0), some (zR 0 0), some (zR 18 0), some (zR 31 0), some (zI x4), some (zI r24), some (zI r25)], [], M26, cl26)) rfl h.1 (fun c => ?_) (fun c => ?_)
  · replace h := h.2.1 c
    refine zT.it 1 (t := (538, [some (zR 32 0), some (zR 0 0), some (zR 18 0), some (zR 31 0), some (zI x4), some (zI r24), some (zI r25)], [zI r24], M26, cl26)) rfl ?_
    refine zT.br (g := zr r24) (p := ¬ r24 = 0) (t := (553, [some (zR 32 0), some (zR 0 0), some (zR 18 0), some (zR 31 0), some (zI x4), some (zI r24), some (zI r25)], [], M26, cl26)) (u := (541, [some (zR 32 0), some (zR 0 0), some (zR 18 0), some (zR 31 0), some (zI x4), some (zI r24), some (zI r25)], [], M26, cl26)) rfl h.1 (fun c => ?_) (fun c => ?_)
    · replace h := h.2.1 c
      refine zT.it 3 (t := (33, [some (zR 32 0), some (zR 0 0), some (zR 18 0), some (zR 31 0), some (zI (x4 + 3)), some (zI r24), some (zI r25)], [], M26, cl26)) rfl ?_
      exact h
    · replace h := h.2.2 (Decidable.not_not.1 c)
      refine zT.it 2 (t := (543, [some (zR 32 0), some (zR 0 0), some (zR 18 0), some (zR 31 0), some (zI x4), some (zI r24), some (zI r25)], [zI 0, zR 31 0], M26, cl26)) rfl ?_
      refine zT.chk (t := (544, [some (zR 32 0), some (zR 0 0), some (zR 18 0), some (zR 31 0), some (zI x4), some (zI r24), some (zI r25)], [zJ (M26.2.1 31 0 0)], M26, cl26)) rfl (by first | decide | (dsimp only; decide)) ?_
      refine zT.it 1 (t := (546, [some (zR 32 0), some (zR 0 0), some (zR 18 0), some (zR 31 0), some (zI x4), some (zI r24), some (zI r25)], [zI r25, zJ (M26.2.1 31 0 0)], M26, cl26)) rfl ?_
      refine zT.chk (p := zr r25) (t := (547, [some (zR 32 0), some (zR 0 0), some (zR 18 0), some (zR 31 0), some (zI x4), some (zI r24), some (zI r25)], [zJ r25, zJ (M26.2.1 31 0 0)], M26, cl26)) rfl h.1 ?_
      replace h := h.2
      refine zT.chk (p := zrl (M26.2.1 31 0 0) ∧ zrl r25) (t := (548, [some (zR 32 0), some (zR 0 0), some (zR 18 0), some (zR 31 0), some (zI x4), some (zI r24), some (zI r25)], [zI (z_cmp (M26.2.1 31 0 0) r25)], M26, cl26)) rfl h.1 ?_
      replace h := h.2
      refine zT.br (t := (553, [some (zR 32 0), some (zR 0 0), some (zR 18 0), some (zR 31 0), some (zI x4), some (zI r24), some (zI r25)], [], M26, cl26)) (u := (551, [some (zR 32 0), some (zR 0 0), some (zR 18 0), some (zR 31 0), some (zI x4), some (zI r24), some (zI r25)], [], M26, cl26)) rfl (z_cmp_r _ _) (fun c => ?_) (fun c => ?_)
      · replace h := h.1 (z_cmp_eq.1 c)
        refine zT.it 3 (t := (33, [some (zR 32 0), some (zR 0 0), some (zR 18 0), some (zR 31 0), some (zI (x4 + 3)), some (zI r24), some (zI r25)], [], M26, cl26)) rfl ?_
        exact h
      · replace h := h.2 (fun d => c (z_cmp_eq.2 d))
        refine zT.it 1 (t := (552, [some (zR 32 0), some (zR 0 0), some (zR 18 0), some (zR 31 0), some (zI x4), some (zI r24), some (zI r25)], [zI 0], M26, cl26)) rfl ?_
        exact zT.ret (v := some (zI 0)) rfl (by first | exact trivial | decide) h
  · replace h := h.2.2 c
    refine zT.it 1 (t := (535, [some (zR 32 0), some (zR 0 0), some (zR 18 0), some (zR 31 0), some (zI x4), some (zI r24), some (zI r25)], [zI 0], M26, cl26)) rfl ?_
    exact zT.ret (v := some (zI 0)) rfl (by first | exact trivial | decide) h
theorem g145_556_32 {x4 : Int} {u5 : Option zV} {u6 : Option zV} {M : zM} {cl : Bool} {Q : zQ} (h : zF 117 [zR 0 0] M (fun v M27 => ∃ r27 : Int, v = some (zI r27) ∧ ∀ cl27 : Bool, zF 118 [zR 18 0] M27 (fun v M28 => ∃ r28 : Int, v = some (zI r28) ∧ ∀ cl28 : Bool, (zr r27 ∧ zr r28) ∧ ((r27 = r28 → zT 145 (33, [some (zR 32 0), some (zR 0 0), some (zR 18 0), some (zR 31 0), some (zI (x4 + 3)), u5, u6], [], M28, cl28) Q) ∧ (¬ (r27 = r28) → Q (.inl (some (zI 0))) M28 cl28 0))))) : zT 145 (556, [some (zR 32 0), some (zR 0 0), some (zR 18 0), some (zR 31 0), some (zI x4), u5, u6], [], M, cl) Q := by
  refine zT.it 1 (t := (557, [some (zR 32 0), some (zR 0 0), some (zR 18 0), some (zR 31 0), some (zI x4), u5, u6], [zR 0 0], M, cl)) rfl ?_
  refine zT.call (m := 117) (as := [zR 0 0]) (M := M) (L := [some (zR 32 0), some (zR 0 0), some (zR 18 0), some (zR 31 0), some (zI x4), u5, u6]) (st := []) (pn := 560) (cl := cl) rfl ?_
  refine zF.mono h (fun v M27 h cl27 => ?_)
  obtain ⟨r27, e27, h⟩ := h; subst e27; replace h := h cl27
  show zT 145 (560, [some (zR 32 0), some (zR 0 0), some (zR 18 0), some (zR 31 0), some (zI x4), u5, u6], [zI r27], M27, cl27) _
  refine zT.it 1 (t := (561, [some (zR 32 0), some (zR 0 0), some (zR 18 0), some (zR 31 0), some (zI x4), u5, u6], [zR 18 0, zI r27], M27, cl27)) rfl ?_
  refine zT.call (m := 118) (as := [zR 18 0]) (M := M27) (L := [some (zR 32 0), some (zR 0 0), some (zR 18 0), some (zR 31 0), some (zI x4), u5, u6]) (st := [zI r27]) (pn := 564) (cl := cl27) rfl ?_
  refine zF.mono h (fun v M28 h cl28 => ?_)
  obtain ⟨r28, e28, h⟩ := h; subst e28; replace h := h cl28
  show zT 145 (564, [some (zR 32 0), some (zR 0 0), some (zR 18 0), some (zR 31 0), some (zI x4), u5, u6], [zI r28, zI r27], M28, cl28) _
  refine zT.br (g := zr r27 ∧ zr r28) (p := r27 = r28) (t := (888, [some (zR 32 0), some (zR 0 0), some (zR 18 0), some (zR 31 0), some (zI x4), u5, u6], [], M28, cl28)) (u := (567, [some (zR 32 0), some (zR 0 0), some (zR 18 0), some (zR 31 0), some (zI x4), u5, u6], [], M28, cl28)) rfl h.1 (fun c => ?_) (fun c => ?_)
  · replace h := h.2.1 c
    refine zT.it 2 (t := (33, [some (zR 32 0), some (zR 0 0), some (zR 18 0), some (zR 31 0), some (zI (x4 + 3)), u5, u6], [], M28, cl28)) rfl ?_
    exact h
  · replace h := h.2.2 c
    refine zT.it 1 (t := (568, [some (zR 32 0), some (zR 0 0), some (zR 18 0), some (zR 31 0), some (zI x4), u5, u6], [zI 0], M28, cl28)) rfl ?_
    exact zT.ret (v := some (zI 0)) rfl (by first | exact trivial | decide) h
theorem g145_569_32 {x4 : Int} {u5 : Option zV} {u6 : Option zV} {M : zM} {cl : Bool} {Q : zQ} (h : (z_wi (x4 + 1) M.2.2) ∧ ((zr (M.1 32 0 ((x4 + 1).toNat))) ∧ (((M.1 32 0 ((x4 + 1).toNat)) = 0 → zG 120 [zR 0 0, zI 0, zR 31 0] M (fun v M29 d29 => ∃ r29 : Int, v = some (zI r29) ∧ ∀ cl29 : Bool, (z_wi (x4 + 1) M29.2.2) ∧ ((zr (M29.1 32 0 ((x4 + 1).toNat))) ∧ (((M29.1 32 0 ((x4 + 1).toNat)) = 0 → zF 121 [zR 18 0, zI 0] M29 (fun v M30 => ∃ r30 : Int, v = some (zI r30) ∧ ∀ cl30 : Bool, zF 64 [zR 18 0] M30 (fun v M31 => ∃ r31 : Int, v = some (zI r31) ∧ ∀ cl31 : Bool, (zr r31 ∧ zr r29) ∧ ((r31 = r29 → (zr r29) ∧ ((¬ r29 = 0 → zT 145 (33, [some (zR 32 0), some (zR 0 0), some (zR 18 0), some (zR 31 0), some (zI (x4 + 3)), some (zI r29), some (zI r30)], [], M31, cl31) (fun o m c e => Q o m c (d29 + e))) ∧ (r29 = 0 → (zr r30) ∧ ((r30 = 0 → (zrl (M31.2.1 31 0 0) ∧ zrl 0) ∧ (((M31.2.1 31 0 0) = 0 → zT 145 (33, [some (zR 32 0), some (zR 0 0), some (zR 18 0), some (zR 31 0), some (zI (x4 + 3)), some (zI r29), some (zI r30)], [], M31, cl31) (fun o m c e => Q o m c (d29 + e))) ∧ (¬ ((M31.2.1 31 0 0) = 0) → (fun o m c e => Q o m c (d29 + e)) (.inl (some (zI 0))) M31 cl31 0))) ∧ (¬ (r30 = 0) → (zrl (M31.2.1 31 0 0) ∧ zrl 1) ∧ (((M31.2.1 31 0 0) = 1 → zT 145 (33, [some (zR 32 0), some (zR 0 0), some (zR 18 0), some (zR 31 0), some (zI (x4 + 3)), some (zI r29), some (zI r30)], [], M31, cl31) (fun o m c e => Q o m c (d29 + e))) ∧ (¬ ((M31.2.1 31 0 0) = 1) → (fun o m c e => Q o m c (d29 + e)) (.inl (some (zI 0))) M31 cl31 0))))))) ∧ (¬ (r31 = r29) → (fun o m c e => Q o m c (d29 + e)) (.inl (some (zI 0))) M31 cl31 0))))) ∧ (¬ ((M29.1 32 0 ((x4 + 1).toNat)) = 0) → zF 121 [zR 18 0, zI 1] M29 (fun v M32 => ∃ r32 : Int, v = some (zI r32) ∧ ∀ cl32 : Bool, zF 64 [zR 18 0] M32 (fun v M33 => ∃ r33 : Int, v = some (zI r33) ∧ ∀ cl33 : Bool, (zr r33 ∧ zr r29) ∧ ((r33 = r29 → (zr r29) ∧ ((¬ r29 = 0 → zT 145 (33, [some (zR 32 0), some (zR 0 0), some (zR 18 0), some (zR 31 0), some (zI (x4 + 3)), some (zI r29), some (zI r32)], [], M33, cl33) (fun o m c e => Q o m c (d29 + e))) ∧ (r29 = 0 → (zr r32) ∧ ((r32 = 0 → (zrl (M33.2.1 31 0 0) ∧ zrl 0) ∧ (((M33.2.1 31 0 0) = 0 → zT 145 (33, [some (zR 32 0), some (zR 0 0), some (zR 18 0), some (zR 31 0), some (zI (x4 + 3)), some (zI r29), some (zI r32)], [], M33, cl33) (fun o m c e => Q o m c (d29 + e))) ∧ (¬ ((M33.2.1 31 0 0) = 0) → (fun o m c e => Q o m c (d29 + e)) (.inl (some (zI 0))) M33 cl33 0))) ∧ (¬ (r32 = 0) → (zrl (M33.2.1 31 0 0) ∧ zrl 1) ∧ (((M33.2.1 31 0 0) = 1 → zT 145 (33, [some (zR 32 0), some (zR 0 0), some (zR 18 0), some (zR 31 0), some (zI (x4 + 3)), some (zI r29), some (zI r32)], [], M33, cl33) (fun o m c e => Q o m c (d29 + e))) ∧ (¬ ((M33.2.1 31 0 0) = 1) → (fun o m c e => Q o m c (d29 + e)) (.inl (some (zI 0))) M33 cl33 0))))))) ∧ (¬ (r33 = r29) → (fun o m c e => Q o m c (d29 + e)) (.inl (some (zI 0))) M33 cl33 0))))))))) ∧ (¬ ((M.1 32 0 ((x4 + 1).toNat)) = 0) → zG 120 [zR 0 0, zI 1, zR 31 0] M (fun v M34 d34 => ∃ r34 : Int, v = some (zI r34) ∧ ∀ cl34 : Bool, (z_wi (x4 + 1) M34.2.2) ∧ ((zr (M34.1 32 0 ((x4 + 1).toNat))) ∧ (((M34.1 32 0 ((x4 + 1).toNat)) = 0 → zF 121 [zR 18 0, zI 0] M34 (fun v M35 => ∃ r35 : Int, v = some (zI r35) ∧ ∀ cl35 : Bool, zF 64 [zR 18 0] M35 (fun v M36 => ∃ r36 : Int, v = some (zI r36) ∧ ∀ cl36 : Bool, (zr r36 ∧ zr r34) ∧ ((r36 = r34 → (zr r34) ∧ ((¬ r34 = 0 → zT 145 (33, [some (zR 32 0), some (zR 0 0), some (zR 18 0), some (zR 31 0), some (zI (x4 + 3)), some (zI r34), some (zI r35)], [], M36, cl36) (fun o m c e => Q o m c (d34 + e))) ∧ (r34 = 0 → (zr r35) ∧ ((r35 = 0 → (zrl (M36.2.1 31 0 0) ∧ zrl 0) ∧ (((M36.2.1 31 0 0) = 0 → zT 145 (33, [some (zR 32 0), some (zR 0 0), some (zR 18 0), some (zR 31 0), some (zI (x4 + 3)), some (zI r34), some (zI r35)], [], M36, cl36) (fun o m c e => Q o m c (d34 + e))) ∧ (¬ ((M36.2.1 31 0 0) = 0) → (fun o m c e => Q o m c (d34 + e)) (.inl (some (zI 0))) M36 cl36 0))) ∧ (¬ (r35 = 0) → (zrl (M36.2.1 31 0 0) ∧ zrl 1) ∧ (((M36.2.1 31 0 0) = 1 → zT 145 (33, [some (zR 32 0), some (zR 0 0), some (zR 18 0), some (zR 31 0), some (zI (x4 + 3)), some (zI r34), some (zI r35)], [], M36, cl36) (fun o m c e => Q o m c (d34 + e))) ∧ (¬ ((M36.2.1 31 0 0) = 1) → (fun o m c e => Q o m c (d34 + e)) (.inl (some (zI 0))) M36 cl36 0))))))) ∧ (¬ (r36 = r34) → (fun o m c e => Q o m c (d34 + e)) (.inl (some (zI 0))) M36 cl36 0))))) ∧ (¬ ((M34.1 32 0 ((x4 + 1).toNat)) = 0) → zF 121 [zR 18 0, zI 1] M34 (fun v M37 => ∃ r37 : Int, v = some (zI r37) ∧ ∀ cl37 : Bool, zF 64 [zR 18 0] M37 (fun v M38 => ∃ r38 : Int, v = some (zI r38) ∧ ∀ cl38 : Bool, (zr r38 ∧ zr r34) ∧ ((r38 = r34 → (zr r34) ∧ ((¬ r34 = 0 → zT 145 (33, [some (zR 32 0), some (zR 0 0), some (zR 18 0), some (zR 31 0), some (zI (x4 + 3)), some (zI r34), some (zI r37)], [], M38, cl38) (fun o m c e => Q o m c (d34 + e))) ∧ (r34 = 0 → (zr r37) ∧ ((r37 = 0 → (zrl (M38.2.1 31 0 0) ∧ zrl 0) ∧ (((M38.2.1 31 0 0) = 0 → zT 145 (33, [some (zR 32 0), some (zR 0 0), some (zR 18 0), some (zR 31 0), some (zI (x4 + 3)), some (zI r34), some (zI r37)], [], M38, cl38) (fun o m c e => Q o m c (d34 + e))) ∧ (¬ ((M38.2.1 31 0 0) = 0) → (fun o m c e => Q o m c (d34 + e)) (.inl (some (zI 0))) M38 cl38 0))) ∧ (¬ (r37 = 0) → (zrl (M38.2.1 31 0 0) ∧ zrl 1) ∧ (((M38.2.1 31 0 0) = 1 → zT 145 (33, [some (zR 32 0), some (zR 0 0), some (zR 18 0), some (zR 31 0), some (zI (x4 + 3)), some (zI r34), some (zI r37)], [], M38, cl38) (fun o m c e => Q o m c (d34 + e))) ∧ (¬ ((M38.2.1 31 0 0) = 1) → (fun o m c e => Q o m c (d34 + e)) (.inl (some (zI 0))) M38 cl38 0))))))) ∧ (¬ (r38 = r34) → (fun o m c e => Q o m c (d34 + e)) (.inl (some (zI 0))) M38 cl38 0)))))))))))) : zT 145 (569, [some (zR 32 0), some (zR 0 0), some (zR 18 0), some (zR 31 0), some (zI x4), u5, u6], [], M, cl) Q := by
  refine zT.it 5 (t := (575, [some (zR 32 0), some (zR 0 0), some (zR 18 0), some (zR 31 0), some (zI x4), u5, u6], [zI (x4 + 1), zR 32 0, zR 0 0], M, cl)) rfl ?_
  refine zT.chk (p := z_wi (x4 + 1) M.2.2) (t := (576, [some (zR 32 0), some (zR 0 0), some (zR 18 0), some (zR 31 0), some (zI x4), u5, u6], [zI (M.1 32 0 ((x4 + 1).toNat)), zR 0 0], M, cl)) rfl h.1 ?_
  replace h := h.2
  refine zT.br (g := zr (M.1 32 0 ((x4 + 1).toNat))) (p := (M.1 32 0 ((x4 + 1).toNat)) = 0) (t := (583, [some (zR 32 0), some (zR 0 0), some (zR 18 0), some (zR 31 0), some (zI x4), u5, u6], [zR 0 0], M, cl)) (u := (579, [some (zR 32 0), some (zR 0 0), some (zR 18 0), some (zR 31 0), some (zI x4), u5, u6], [zR 0 0], M, cl)) rfl h.1 (fun c => ?_) (fun c => ?_)
  · replace h := h.2.1 c
    refine zT.it 2 (t := (585, [some (zR 32 0), some (zR 0 0), some (zR 18 0), some (zR 31 0), some (zI x4), u5, u6], [zR 31 0, zI 0, zR 0 0], M, cl)) rfl ?_
    refine zT.callG (m := 120) (as := [zR 0 0, zI 0, zR 31 0]) (M := M) (L := [some (zR 32 0), some (zR 0 0), some (zR 18 0), some (zR 31 0), some (zI x4), u5, u6]) (st := []) (pn := 588) (cl := cl) rfl ?_
    refine zG.mono h (fun v M29 d29 h cl29 => ?_)
    obtain ⟨r29, e29, h⟩ := h; subst e29; replace h := h cl29
    show zT 145 (588, [some (zR 32 0), some (zR 0 0), some (zR 18 0), some (zR 31 0), some (zI x4), u5, u6], [zI r29], M29, cl29) _
    refine zT.it 6 (t := (596, [some (zR 32 0), some (zR 0 0), some (zR 18 0), some (zR 31 0), some (zI x4), some (zI r29), u6], [zI (x4 + 1), zR 32 0, zR 18 0], M29, cl29)) rfl ?_
    refine zT.chk (p := z_wi (x4 + 1) M29.2.2) (t := (597, [some (zR 32 0), some (zR 0 0), some (zR 18 0), some (zR 31 0), some (zI x4), some (zI r29), u6], [zI (M29.1 32 0 ((x4 + 1).toNat)), zR 18 0], M29, cl29)) rfl h.1 ?_
    replace h := h.2
    refine zT.br (g := zr (M29.1 32 0 ((x4 + 1).toNat))) (p := (M29.1 32 0 ((x4 + 1).toNat)) = 0) (t := (604, [some (zR 32 0), some (zR 0 0), some (zR 18 0), some (zR 31 0), some (zI x4), some (zI r29), u6], [zR 18 0], M29, cl29)) (u := (600, [some (zR 32 0), some (zR 0 0), some (zR 18 0), some (zR 31 0), some (zI x4), some (zI r29), u6], [zR 18 0], M29, cl29)) rfl h.1 (fun c => ?_) (fun c => ?_)
    · replace h := h.2.1 c
      refine zT.it 1 (t := (605, [some (zR 32 0), some (zR 0 0), some (zR 18 0), some (zR 31 0), some (zI x4), some (zI r29), u6], [zI 0, zR 18 0], M29, cl29)) rfl ?_
      refine zT.call (m := 121) (as := [zR 18 0, zI 0]) (M := M29) (L := [some (zR 32 0), some (zR 0 0), some (zR 18 0), some (zR 31 0), some (zI x4), some (zI r29), u6]) (st := []) (pn := 608) (cl := cl29) rfl ?_
      refine zF.mono h (fun v M30 h cl30 => ?_)
      obtain ⟨r30, e30, h⟩ := h; subst e30; replace h := h cl30
      show zT 145 (608, [some (zR 32 0), some (zR 0 0), some (zR 18 0), some (zR 31 0), some (zI x4), some (zI r29), u6], [zI r30], M30, cl30) _
      refine zT.it 2 (t := (611, [some (zR 32 0), some (zR 0 0), some (zR 18 0), some (zR 31 0), some (zI x4), some (zI r29), some (zI r30)], [zR 18 0], M30, cl30)) rfl ?_
      refine zT.call (m := 64) (as := [zR 18 0]) (M := M30) (L := [some (zR 32 0), some (zR 0 0), some (zR 18 0), some (zR 31 0), some (zI x4), some (zI r29), some (zI r30)]) (st := []) (pn := 614) (cl := cl30) rfl ?_
      refine zF.mono h (fun v M31 h cl31 => ?_)
      obtain ⟨r31, e31, h⟩ := h; subst e31; replace h := h cl31
      show zT 145 (614, [some (zR 32 0), some (zR 0 0), some (zR 18 0), some (zR 31 0), some (zI x4), some (zI r29), some (zI r30)], [zI r31], M31, cl31) _
      refine zT.it 1 (t := (616, [some (zR 32 0), some (zR 0 0), some (zR 18 0), some (zR 31 0), some (zI x4), some (zI r29), some (zI r30)], [zI r29, zI r31], M31, cl31)) rfl ?_
      refine zT.br (g := zr r31 ∧ zr r29) (p := r31 = r29) (t := (621, [some (zR 32 0), some (zR 0 0), some (zR 18 0), some (zR 31 0), some (zI x4), some (zI r29), some (zI r30)], [], M31, cl31)) (u := (619, [some (zR 32 0), some (zR 0 0), some (zR 18 0), some (zR 31 0), some (zI x4), some (zI r29), some (zI r30)], [], M31, cl31)) rfl h.1 (fun c => ?_) (fun c => ?_)
      · replace h := h.2.1 c
        refine zT.it 1 (t := (623, [some (zR 32 0), some (zR 0 0), some (zR 18 0), some (zR 31 0), some (zI x4), some (zI r29), some (zI r30)], [zI r29], M31, cl31)) rfl ?_
        refine zT.br (g := zr r29) (p := ¬ r29 = 0) (t := (645, [some (zR 32 0), some (zR 0 0), some (zR 18 0), some (zR 31 0), some (zI x4), some (zI r29), some (zI r30)], [], M31, cl31)) (u := (626, [some (zR 32 0), some (zR 0 0), some (zR 18 0), some (zR 31 0), some (zI x4), some (zI r29), some (zI r30)], [], M31, cl31)) rfl h.1 (fun c => ?_) (fun c => ?_)
        · replace h := h.2.1 c
          refine zT.it 3 (t := (33, [some (zR 32 0), some (zR 0 0), some (zR 18 0), some (zR 31 0), some (zI (x4 + 3)), some (zI r29), some (zI r30)], [], M31, cl31)) rfl ?_
          exact h
        · replace h := h.2.2 (Decidable.not_not.1 c)
          refine zT.it 2 (t := (628, [some (zR 32 0), some (zR 0 0), some (zR 18 0), some (zR 31 0), some (zI x4), some (zI r29), some (zI r30)], [zI 0, zR 31 0], M31, cl31)) rfl ?_
          refine zT.chk (t := (629, [some (zR 32 0), some (zR 0 0), some (zR 18 0), some (zR 31 0), some (zI x4), some (zI r29), some (zI r30)], [zJ (M31.2.1 31 0 0)], M31, cl31)) rfl (by first | decide | (dsimp only; decide)) ?_
          refine zT.it 1 (t := (631, [some (zR 32 0), some (zR 0 0), some (zR 18 0), some (zR 31 0), some (zI x4), some (zI r29), some (zI r30)], [zI r30, zJ (M31.2.1 31 0 0)], M31, cl31)) rfl ?_
          refine zT.br (g := zr r30) (p := r30 = 0) (t := (638, [some (zR 32 0), some (zR 0 0), some (zR 18 0), some (zR 31 0), some (zI x4), some (zI r29), some (zI r30)], [zJ (M31.2.1 31 0 0)], M31, cl31)) (u := (634, [some (zR 32 0), some (zR 0 0), some (zR 18 0), some (zR 31 0), some (zI x4), some (zI r29), some (zI r30)], [zJ (M31.2.1 31 0 0)], M31, cl31)) rfl h.1 (fun c => ?_) (fun c => ?_)
          · replace h := h.2.1 c
            refine zT.it 1 (t := (639, [some (zR 32 0), some (zR 0 0), some (zR 18 0), some (zR 31 0), some (zI x4), some (zI r29), some (zI r30)], [zJ 0, zJ (M31.2.1 31 0 0)], M31, cl31)) rfl ?_
            refine zT.chk (p := zrl (M31.2.1 31 0 0) ∧ zrl 0) (t := (640, [some (zR 32 0), some (zR 0 0), some (zR 18 0), some (zR 31 0), some (zI x4), some (zI r29), some (zI r30)], [zI (z_cmp (M31.2.1 31 0 0) 0)], M31, cl31)) rfl h.1 ?_
            replace h := h.2
            refine zT.br (t := (645, [some (zR 32 0), some (zR 0 0), some (zR 18 0), some (zR 31 0), some (zI x4), some (zI r29), some (zI r30)], [], M31, cl31)) (u := (643, [some (zR 32 0), some (zR 0 0), some (zR 18 0), some (zR 31 0), some (zI x4), some (zI r29), some (zI r30)], [], M31, cl31)) rfl (z_cmp_r _ _) (fun c => ?_) (fun c => ?_)
            · replace h := h.1 (z_cmp_eq.1 c)
              refine zT.it 3 (t := (33, [some (zR 32 0), some (zR 0 0), some (zR 18 0), some (zR 31 0), some (zI (x4 + 3)), some (zI r29), some (zI r30)], [], M31, cl31)) rfl ?_
              exact h
            · replace h := h.2 (fun d => c (z_cmp_eq.2 d))
              refine zT.it 1 (t := (644, [some (zR 32 0), some (zR 0 0), some (zR 18 0), some (zR 31 0), some (zI x4), some (zI r29), some (zI r30)], [zI 0], M31, cl31)) rfl ?_
              exact zT.ret (v := some (zI 0)) rfl (by first | exact trivial | decide) h
          · replace h := h.2.2 c
            refine zT.it 2 (t := (639, [some (zR 32 0), some (zR 0 0), some (zR 18 0), some (zR 31 0), some (zI x4), some (zI r29), some (zI r30)], [zJ 1, zJ (M31.2.1 31 0 0)], M31, cl31)) rfl ?_
            refine zT.chk (p := zrl (M31.2.1 31 0 0) ∧ zrl 1) (t := (640, [some (zR 32 0), some (zR 0 0), some (zR 18 0), some (zR 31 0), some (zI x4), some (zI r29), some (zI r30)], [zI (z_cmp (M31.2.1 31 0 0) 1)], M31, cl31)) rfl h.1 ?_
            replace h := h.2
            refine zT.br (t := (645, [some (zR 32 0), some (zR 0 0), some (zR 18 0), some (zR 31 0), some (zI x4), some (zI r29), some (zI r30)], [], M31, cl31)) (u := (643, [some (zR 32 0), some (zR 0 0), some (zR 18 0), some (zR 31 0), some (zI x4), some (zI r29), some (zI r30)], [], M31, cl31)) rfl (z_cmp_r _ _) (fun c => ?_) (fun c => ?_)
            · replace h := h.1 (z_cmp_eq.1 c)
              refine zT.it 3 (t := (33, [some (zR 32 0), some (zR 0 0), some (zR 18 0), some (zR 31 0), some (zI (x4 + 3)), some (zI r29), some (zI r30)], [], M31, cl31)) rfl ?_
              exact h
            · replace h := h.2 (fun d => c (z_cmp_eq.2 d))
              refine zT.it 1 (t := (644, [some (zR 32 0), some (zR 0 0), some (zR 18 0), some (zR 31 0), some (zI x4), some (zI r29), some (zI r30)], [zI 0], M31, cl31)) rfl ?_
              exact zT.ret (v := some (zI 0)) rfl (by first | exact trivial | decide) h
      · replace h := h.2.2 c
        refine zT.it 1 (t := (620, [some (zR 32 0), some (zR 0 0), some (zR 18 0), some (zR 31 0), some (zI x4), some (zI r29), some (zI r30)], [zI 0], M31, cl31)) rfl ?_
        exact zT.ret (v := some (zI 0)) rfl (by first | exact trivial | decide) h
    · replace h := h.2.2 c
      refine zT.it 2 (t := (605, [some (zR 32 0), some (zR 0 0), some (zR 18 0), some (zR 31 0), some (zI x4), some (zI r29), u6], [zI 1, zR 18 0], M29, cl29)) rfl ?_
      refine zT.call (m := 121) (as := [zR 18 0, zI 1]) (M := M29) (L := [some (zR 32 0), some (zR 0 0), some (zR 18 0), some (zR 31 0), some (zI x4), some (zI r29), u6]) (st := []) (pn := 608) (cl := cl29) rfl ?_
      refine zF.mono h (fun v M32 h cl32 => ?_)
      obtain ⟨r32, e32, h⟩ := h; subst e32; replace h := h cl32
      show zT 145 (608, [some (zR 32 0), some (zR 0 0), some (zR 18 0), some (zR 31 0), some (zI x4), some (zI r29), u6], [zI r32], M32, cl32) _
      refine zT.it 2 (t := (611, [some (zR 32 0), some (zR 0 0), some (zR 18 0), some (zR 31 0), some (zI x4), some (zI r29), some (zI r32)], [zR 18 0], M32, cl32)) rfl ?_
      refine zT.call (m := 64) (as := [zR 18 0]) (M := M32) (L := [some (zR 32 0), some (zR 0 0), some (zR 18 0), some (zR 31 0), some (zI x4), some (zI r29), some (zI r32)]) (st := []) (pn := 614) (cl := cl32) rfl ?_
      refine zF.mono h (fun v M33 h cl33 => ?_)
      obtain ⟨r33, e33, h⟩ := h; subst e33; replace h := h cl33
      show zT 145 (614, [some (zR 32 0), some (zR 0 0), some (zR 18 0), some (zR 31 0), some (zI x4), some (zI r29), some (zI r32)], [zI r33], M33, cl33) _
      refine zT.it 1 (t := (616, [some (zR 32 0), some (zR 0 0), some (zR 18 0), some (zR 31 0), some (zI x4), some (zI r29), some (zI r32)], [zI r29, zI r33], M33, cl33)) rfl ?_
      refine zT.br (g := zr r33 ∧ zr r29) (p := r33 = r29) (t := (621, [some (zR 32 0), some (zR 0 0), some (zR 18 0), some (zR 31 0), some (zI x4), some (zI r29), some (zI r32)], [], M33, cl33)) (u := (619, [some (zR 32 0), some (zR 0 0), some (zR 18 0), some (zR 31 0), some (zI x4), some (zI r29), some (zI r32)], [], M33, cl33)) rfl h.1 (fun c => ?_) (fun c => ?_)
      · replace h := h.2.1 c
        refine zT.it 1 (t := (623, [some (zR 32 0), some (zR 0 0), some (zR 18 0), some (zR 31 0), some (zI x4), some (zI r29), some (zI r32)], [zI r29], M33, cl33)) rfl ?_
        refine zT.br (g := zr r29) (p := ¬ r29 = 0) (t := (645, [some (zR 32 0), some (zR 0 0), some (zR 18 0), some (zR 31 0), some (zI x4), some (zI r29), some (zI r32)], [], M33, cl33)) (u := (626, [some (zR 32 0), some (zR 0 0), some (zR 18 0), some (zR 31 0), some (zI x4), some (zI r29), some (zI r32)], [], M33, cl33)) rfl h.1 (fun c => ?_) (fun c => ?_)
        · replace h := h.2.1 c
          refine zT.it 3 (t := (33, [some (zR 32 0), some (zR 0 0), some (zR 18 0), some (zR 31 0), some (zI (x4 + 3)), some (zI r29), some (zI r32)], [], M33, cl33)) rfl ?_
          exact h
        · replace h := h.2.2 (Decidable.not_not.1 c)
          refine zT.it 2 (t := (628, [some (zR 32 0), some (zR 0 0), some (zR 18 0), some (zR 31 0), some (zI x4), some (zI r29), some (zI r32)], [zI 0, zR 31 0], M33, cl33)) rfl ?_
          refine zT.chk (t := (629, [some (zR 32 0), some (zR 0 0), some (zR 18 0), some (zR 31 0), some (zI x4), some (zI r29), some (zI r32)], [zJ (M33.2.1 31 0 0)], M33, cl33)) rfl (by first | decide | (dsimp only; decide)) ?_
          refine zT.it 1 (t := (631, [some (zR 32 0), some (zR 0 0), some (zR 18 0), some (zR 31 0), some (zI x4), some (zI r29), some (zI r32)], [zI r32, zJ (M33.2.1 31 0 0)], M33, cl33)) rfl ?_
          refine zT.br (g := zr r32) (p := r32 = 0) (t := (638, [some (zR 32 0), some (zR 0 0), some (zR 18 0), some (zR 31 0), some (zI x4), some (zI r29), some (zI r32)], [zJ (M33.2.1 31 0 0)], M33, cl33)) (u := (634, [some (zR 32 0), some (zR 0 0), some (zR 18 0), some (zR 31 0), some (zI x4), some (zI r29), some (zI r32)], [zJ (M33.2.1 31 0 0)], M33, cl33)) rfl h.1 (fun c => ?_) (fun c => ?_)
          · replace h := h.2.1 c
            refine zT.it 1 (t := (639, [some (zR 32 0), some (zR 0 0), some (zR 18 0), some (zR 31 0), some (zI x4), some (zI r29), some (zI r32)], [zJ 0, zJ (M33.2.1 31 0 0)], M33, cl33)) rfl ?_
            refine zT.chk (p := zrl (M33.2.1 31 0 0) ∧ zrl 0) (t := (640, [some (zR 32 0), some (zR 0 0), some (zR 18 0), some (zR 31 0), some (zI x4), some (zI r29), some (zI r32)], [zI (z_cmp (M33.2.1 31 0 0) 0)], M33, cl33)) rfl h.1 ?_
            replace h := h.2
            refine zT.br (t := (645, [some (zR 32 0), some (zR 0 0), some (zR 18 0), some (zR 31 0), some (zI x4), some (zI r29), some (zI r32)], [], M33, cl33)) (u := (643, [some (zR 32 0), some (zR 0 0), some (zR 18 0), some (zR 31 0), some (zI x4), some (zI r29), some (zI r32)], [], M33, cl33)) rfl (z_cmp_r _ _) (fun c => ?_) (fun c => ?_)
            · replace h := h.1 (z_cmp_eq.1 c)
              refine zT.it 3 (t := (33, [some (zR 32 0), some (zR 0 0), some (zR 18 0), some (zR 31 0), some (zI (x4 + 3)), some (zI r29), some (zI r32)], [], M33, cl33)) rfl ?_
              exact h
            · replace h := h.2 (fun d => c (z_cmp_eq.2 d))
              refine zT.it 1 (t := (644, [some (zR 32 0), some (zR 0 0), some (zR 18 0), some (zR 31 0), some (zI x4), some (zI r29), some (zI r32)], [zI 0], M33, cl33)) rfl ?_
              exact zT.ret (v := some (zI 0)) rfl (by first | exact trivial | decide) h
          · replace h := h.2.2 c
            refine zT.it 2 (t := (639, [some (zR 32 0), some (zR 0 0), some (zR 18 0), some (zR 31 0), some (zI x4), some (zI r29), some (zI r32)], [zJ 1, zJ (M33.2.1 31 0 0)], M33, cl33)) rfl ?_
            refine zT.chk (p := zrl (M33.2.1 31 0 0) ∧ zrl 1) (t := (640, [some (zR 32 0), some (zR 0 0), some (zR 18 0), some (zR 31 0), some (zI x4), some (zI r29), some (zI r32)], [zI (z_cmp (M33.2.1 31 0 0) 1)], M33, cl33)) rfl h.1 ?_
            replace h := h.2
            refine zT.br (t := (645, [some (zR 32 0), some (zR 0 0), some (zR 18 0), some (zR 31 0), some (zI x4), some (zI r29), some (zI r32)], [], M33, cl33)) (u := (643, [some (zR 32 0), some (zR 0 0), some (zR 18 0), some (zR 31 0), some (zI x4), some (zI r29), some (zI r32)], [], M33, cl33)) rfl (z_cmp_r _ _) (fun c => ?_) (fun c => ?_)
            · replace h := h.1 (z_cmp_eq.1 c)
              refine zT.it 3 (t := (33, [some (zR 32 0), some (zR 0 0), some (zR 18 0), some (zR 31 0), some (zI (x4 + 3)), some (zI r29), some (zI r32)], [], M33, cl33)) rfl ?_
              exact h
            · replace h := h.2 (fun d => c (z_cmp_eq.2 d))
              refine zT.it 1 (t := (644, [some (zR 32 0), some (zR 0 0), some (zR 18 0), some (zR 31 0), some (zI x4), some (zI r29), some (zI r32)], [zI 0], M33, cl33)) rfl ?_
              exact zT.ret (v := some (zI 0)) rfl (by first | exact trivial | decide) h
      · replace h := h.2.2 c
        refine zT.it 1 (t := (620, [some (zR 32 0), some (zR 0 0), some (zR 18 0), some (zR 31 0), some (zI x4), some (zI r29), some (zI r32)], [zI 0], M33, cl33)) rfl ?_
        exact zT.ret (v := some (zI 0)) rfl (by first | exact trivial | decide) h
  · replace h := h.2.2 c
    refine zT.it 3 (t := (585, [some (zR 32 0), some (zR 0 0), some (zR 18 0), some (zR 31 0), some (zI x4), u5, u6], [zR 31 0, zI 1, zR 0 0], M, cl)) rfl ?_
    refine zT.callG (m := 120) (as := [zR 0 0, zI 1, zR 31 0]) (M := M) (L := [some (zR 32 0), some (zR 0 0), some (zR 18 0), some (zR 31 0), some (zI x4), u5, u6]) (st := []) (pn := 588) (cl := cl) rfl ?_
    refine zG.mono h (fun v M34 d34 h cl34 => ?_)
    obtain ⟨r34, e34, h⟩ := h; subst e34; replace h := h cl34
    show zT 145 (588, [some (zR 32 0), some (zR 0 0), some (zR 18 0), some (zR 31 0), some (zI x4), u5, u6], [zI r34], M34, cl34) _
    refine zT.it 6 (t := (596, [some (zR 32 0), some (zR 0 0), some (zR 18 0), some (zR 31 0), some (zI x4), some (zI r34), u6], [zI (x4 + 1), zR 32 0, zR 18 0], M34, cl34)) rfl ?_
    refine zT.chk (p := z_wi (x4 + 1) M34.2.2) (t := (597, [some (zR 32 0), some (zR 0 0), some (zR 18 0), some (zR 31 0), some (zI x4), some (zI r34), u6], [zI (M34.1 32 0 ((x4 + 1).toNat)), zR 18 0], M34, cl34)) rfl h.1 ?_
    replace h := h.2
    refine zT.br (g := zr (M34.1 32 0 ((x4 + 1).toNat))) (p := (M34.1 32 0 ((x4 + 1).toNat)) = 0) (t := (604, [some (zR 32 0), some (zR 0 0), some (zR 18 0), some (zR 31 0), some (zI x4), some (zI r34), u6], [zR 18 0], M34, cl34)) (u := (600, [some (zR 32 0), some (zR 0 0), some (zR 18 0), some (zR 31 0), some (zI x4), some (zI r34), u6], [zR 18 0], M34, cl34)) rfl h.1 (fun c => ?_) (fun c => ?_)
    · replace h := h.2.1 c
      refine zT.it 1 (t := (605, [some (zR 32 0), some (zR 0 0), some (zR 18 0), some (zR 31 0), some (zI x4), some (zI r34), u6], [zI 0, zR 18 0], M34, cl34)) rfl ?_
      refine zT.call (m := 121) (as := [zR 18 0, zI 0]) (M := M34) (L := [some (zR 32 0), some (zR 0 0), some (zR 18 0), some (zR 31 0), some (zI x4), some (zI r34), u6]) (st := []) (pn := 608) (cl := cl34) rfl ?_
      refine zF.mono h (fun v M35 h cl35 => ?_)
      obtain ⟨r35, e35, h⟩ := h; subst e35; replace h := h cl35
      show zT 145 (608, [some (zR 32 0), some (zR 0 0), some (zR 18 0), some (zR 31 0), some (zI x4), some (zI r34), u6], [zI r35], M35, cl35) _
      refine zT.it 2 (t := (611, [some (zR 32 0), some (zR 0 0), some (zR 18 0), some (zR 31 0), some (zI x4), some (zI r34), some (zI r35)], [zR 18 0], M35, cl35)) rfl ?_
      refine zT.call (m := 64) (as := [zR 18 0]) (M := M35) (L := [some (zR 32 0), some (zR 0 0), some (zR 18 0), some (zR 31 0), some (zI x4), some (zI r34), some (zI r35)]) (st := []) (pn := 614) (cl := cl35) rfl ?_
      refine zF.mono h (fun v M36 h cl36 => ?_)
      obtain ⟨r36, e36, h⟩ := h; subst e36; replace h := h cl36
      show zT 145 (614, [some (zR 32 0), some (zR 0 0), some (zR 18 0), some (zR 31 0), some (zI x4), some (zI r34), some (zI r35)], [zI r36], M36, cl36) _
      refine zT.it 1 (t := (616, [some (zR 32 0), some (zR 0 0), some (zR 18 0), some (zR 31 0), some (zI x4), some (zI r34), some (zI r35)], [zI r34, zI r36], M36, cl36)) rfl ?_
      refine zT.br (g := zr r36 ∧ zr r34) (p := r36 = r34) (t := (621, [some (zR 32 0), some (zR 0 0), some (zR 18 0), some (zR 31 0), some (zI x4), some (zI r34), some (zI r35)], [], M36, cl36)) (u := (619, [some (zR 32 0), some (zR 0 0), some (zR 18 0), some (zR 31 0), some (zI x4), some (zI r34), some (zI r35)], [], M36, cl36)) rfl h.1 (fun c => ?_) (fun c => ?_)
      · replace h := h.2.1 c
        refine zT.it 1 (t := (623, [some (zR 32 0), some (zR 0 0), some (zR 18 0), some (zR 31 0), some (zI x4), some (zI r34), some (zI r35)], [zI r34], M36, cl36)) rfl ?_
        refine zT.br (g := zr r34) (p := ¬ r34 = 0) (t := (645, [some (zR 32 0), some (zR 0 0), some (zR 18 0), some (zR 31 0), some (zI x4), some (zI r34), some (zI r35)], [], M36, cl36)) (u := (626, [some (zR 32 0), some (zR 0 0), some (zR 18 0), some (zR 31 0), some (zI x4), some (zI r34), some (zI r35)], [], M36, cl36)) rfl h.1 (fun c => ?_) (fun c => ?_)
        · replace h := h.2.1 c
          refine zT.it 3 (t := (33, [some (zR 32 0), some (zR 0 0), some (zR 18 0), some (zR 31 0), some (zI (x4 + 3)), some (zI r34), some (zI r35)], [], M36, cl36)) rfl ?_
          exact h
        · replace h := h.2.2 (Decidable.not_not.1 c)
          refine zT.it 2 (t := (628, [some (zR 32 0), some (zR 0 0), some (zR 18 0), some (zR 31 0), some (zI x4), some (zI r34), some (zI r35)], [zI 0, zR 31 0], M36, cl36)) rfl ?_
          refine zT.chk (t := (629, [some (zR 32 0), some (zR 0 0), some (zR 18 0), some (zR 31 0), some (zI x4), some (zI r34), some (zI r35)], [zJ (M36.2.1 31 0 0)], M36, cl36)) rfl (by first | decide | (dsimp only; decide)) ?_
          refine zT.it 1 (t := (631, [some (zR 32 0), some (zR 0 0), some (zR 18 0), some (zR 31 0), some (zI x4), some (zI r34), some (zI r35)], [zI r35, zJ (M36.2.1 31 0 0)], M36, cl36)) rfl ?_
          refine zT.br (g := zr r35) (p := r35 = 0) (t := (638, [some (zR 32 0), some (zR 0 0), some (zR 18 0), some (zR 31 0), some (zI x4), some (zI r34), some (zI r35)], [zJ (M36.2.1 31 0 0)], M36, cl36)) (u := (634, [some (zR 32 0), some (zR 0 0), some (zR 18 0), some (zR 31 0), some (zI x4), some (zI r34), some (zI r35)], [zJ (M36.2.1 31 0 0)], M36, cl36)) rfl h.1 (fun c => ?_) (fun c => ?_)
          · replace h := h.2.1 c
            refine zT.it 1 (t := (639, [some (zR 32 0), some (zR 0 0), some (zR 18 0), some (zR 31 0), some (zI x4), some (zI r34), some (zI r35)], [zJ 0, zJ (M36.2.1 31 0 0)], M36, cl36)) rfl ?_
            refine zT.chk (p := zrl (M36.2.1 31 0 0) ∧ zrl 0) (t := (640, [some (zR 32 0), some (zR 0 0), some (zR 18 0), some (zR 31 0), some (zI x4), some (zI r34), some (zI r35)], [zI (z_cmp (M36.2.1 31 0 0) 0)], M36, cl36)) rfl h.1 ?_
            replace h := h.2
            refine zT.br (t := (645, [some (zR 32 0), some (zR 0 0), some (zR 18 0), some (zR 31 0), some (zI x4), some (zI r34), some (zI r35)], [], M36, cl36)) (u := (643, [some (zR 32 0), some (zR 0 0), some (zR 18 0), some (zR 31 0), some (zI x4), some (zI r34), some (zI r35)], [], M36, cl36)) rfl (z_cmp_r _ _) (fun c => ?_) (fun c => ?_)
            · replace h := h.1 (z_cmp_eq.1 c)
              refine zT.it 3 (t := (33, [some (zR 32 0), some (zR 0 0), some (zR 18 0), some (zR 31 0), some (zI (x4 + 3)), some (zI r34), some (zI r35)], [], M36, cl36)) rfl ?_
              exact h
            · replace h := h.2 (fun d => c (z_cmp_eq.2 d))
              refine zT.it 1 (t := (644, [some (zR 32 0), some (zR 0 0), some (zR 18 0), some (zR 31 0), some (zI x4), some (zI r34), some (zI r35)], [zI 0], M36, cl36)) rfl ?_
              exact zT.ret (v := some (zI 0)) rfl (by first | exact trivial | decide) h
          · replace h := h.2.2 c
            refine zT.it 2 (t := (639, [some (zR 32 0), some (zR 0 0), some (zR 18 0), some (zR 31 0), some (zI x4), some (zI r34), some (zI r35)], [zJ 1, zJ (M36.2.1 31 0 0)], M36, cl36)) rfl ?_
            refine zT.chk (p := zrl (M36.2.1 31 0 0) ∧ zrl 1) (t := (640, [some (zR 32 0), some (zR 0 0), some (zR 18 0), some (zR 31 0), some (zI x4), some (zI r34), some (zI r35)], [zI (z_cmp (M36.2.1 31 0 0) 1)], M36, cl36)) rfl h.1 ?_
            replace h := h.2
            refine zT.br (t := (645, [some (zR 32 0), some (zR 0 0), some (zR 18 0), some (zR 31 0), some (zI x4), some (zI r34), some (zI r35)], [], M36, cl36)) (u := (643, [some (zR 32 0), some (zR 0 0), some (zR 18 0), some (zR 31 0), some (zI x4), some (zI r34), some (zI r35)], [], M36, cl36)) rfl (z_cmp_r _ _) (fun c => ?_) (fun c => ?_)
            · replace h := h.1 (z_cmp_eq.1 c)
              refine zT.it 3 (t := (33, [some (zR 32 0), some (zR 0 0), some (zR 18 0), some (zR 31 0), some (zI (x4 + 3)), some (zI r34), some (zI r35)], [], M36, cl36)) rfl ?_
              exact h
            · replace h := h.2 (fun d => c (z_cmp_eq.2 d))
              refine zT.it 1 (t := (644, [some (zR 32 0), some (zR 0 0), some (zR 18 0), some (zR 31 0), some (zI x4), some (zI r34), some (zI r35)], [zI 0], M36, cl36)) rfl ?_
              exact zT.ret (v := some (zI 0)) rfl (by first | exact trivial | decide) h
      · replace h := h.2.2 c
        refine zT.it 1 (t := (620, [some (zR 32 0), some (zR 0 0), some (zR 18 0), some (zR 31 0), some (zI x4), some (zI r34), some (zI r35)], [zI 0], M36, cl36)) rfl ?_
        exact zT.ret (v := some (zI 0)) rfl (by first | exact trivial | decide) h
    · replace h := h.2.2 c
      refine zT.it 2 (t := (605, [some (zR 32 0), some (zR 0 0), some (zR 18 0), some (zR 31 0), some (zI x4), some (zI r34), u6], [zI 1, zR 18 0], M34, cl34)) rfl ?_
      refine zT.call (m := 121) (as := [zR 18 0, zI 1]) (M := M34) (L := [some (zR 32 0), some (zR 0 0), some (zR 18 0), some (zR 31 0), some (zI x4), some (zI r34), u6]) (st := []) (pn := 608) (cl := cl34) rfl ?_
      refine zF.mono h (fun v M37 h cl37 => ?_)
      obtain ⟨r37, e37, h⟩ := h; subst e37; replace h := h cl37
      show zT 145 (608, [some (zR 32 0), some (zR 0 0), some (zR 18 0), some (zR 31 0), some (zI x4), some (zI r34), u6], [zI r37], M37, cl37) _
      refine zT.it 2 (t := (611, [some (zR 32 0), some (zR 0 0), some (zR 18 0), some (zR 31 0), some (zI x4), some (zI r34), some (zI r37)], [zR 18 0], M37, cl37)) rfl ?_
      refine zT.call (m := 64) (as := [zR 18 0]) (M := M37) (L := [some (zR 32 0), some (zR 0 0), some (zR 18 0), some (zR 31 0), some (zI x4), some (zI r34), some (zI r37)]) (st := []) (pn := 614) (cl := cl37) rfl ?_
      refine zF.mono h (fun v M38 h cl38 => ?_)
      obtain ⟨r38, e38, h⟩ := h; subst e38; replace h := h cl38
      show zT 145 (614, [some (zR 32 0), some (zR 0 0), some (zR 18 0), some (zR 31 0), some (zI x4), some (zI r34), some (zI r37)], [zI r38], M38, cl38) _
      refine zT.it 1 (t := (616, [some (zR 32 0), some (zR 0 0), some (zR 18 0), some (zR 31 0), some (zI x4), some (zI r34), some (zI r37)], [zI r34, zI r38], M38, cl38)) rfl ?_
      refine zT.br (g := zr r38 ∧ zr r34) (p := r38 = r34) (t := (621, [some (zR 32 0), some (zR 0 0), some (zR 18 0), some (zR 31 0), some (zI x4), some (zI r34), some (zI r37)], [], M38, cl38)) (u := (619, [some (zR 32 0), some (zR 0 0), some (zR 18 0), some (zR 31 0), some (zI x4), some (zI r34), some (zI r37)], [], M38, cl38)) rfl h.1 (fun c => ?_) (fun c => ?_)
      · replace h := h.2.1 c
        refine zT.it 1 (t := (623, [some (zR 32 0), some (zR 0 0), some (zR 18 0), some (zR 31 0), some (zI x4), some (zI r34), some (zI r37)], [zI r34], M38, cl38)) rfl ?_
        refine zT.br (g := zr r34) (p := ¬ r34 = 0) (t := (645, [some (zR 32 0), some (zR 0 0), some (zR 18 0), some (zR 31 0), some (zI x4), some (zI r34), some (zI r37)], [], M38, cl38)) (u := (626, [some (zR 32 0), some (zR 0 0), some (zR 18 0), some (zR 31 0), some (zI x4), some (zI r34), some (zI r37)], [], M38, cl38)) rfl h.1 (fun c => ?_) (fun c => ?_)
        · replace h := h.2.1 c
          refine zT.it 3 (t := (33, [some (zR 32 0), some (zR 0 0), some (zR 18 0), some (zR 31 0), some (zI (x4 + 3)), some (zI r34), some (zI r37)], [], M38, cl38)) rfl ?_
          exact h
        · replace h := h.2.2 (Decidable.not_not.1 c)
          refine zT.it 2 (t := (628, [some (zR 32 0), some (zR 0 0), some (zR 18 0), some (zR 31 0), some (zI x4), some (zI r34), some (zI r37)], [zI 0, zR 31 0], M38, cl38)) rfl ?_
          refine zT.chk (t := (629, [some (zR 32 0), some (zR 0 0), some (zR 18 0), some (zR 31 0), some (zI x4), some (zI r34), some (zI r37)], [zJ (M38.2.1 31 0 0)], M38, cl38)) rfl (by first | decide | (dsimp only; decide)) ?_
          refine zT.it 1 (t := (631, [some (zR 32 0), some (zR 0 0), some (zR 18 0), some (zR 31 0), some (zI x4), some (zI r34), some (zI r37)], [zI r37, zJ (M38.2.1 31 0 0)], M38, cl38)) rfl ?_
          refine zT.br (g := zr r37) (p := r37 = 0) (t := (638, [some (zR 32 0), some (zR 0 0), some (zR 18 0), some (zR 31 0), some (zI x4), some (zI r34), some (zI r37)], [zJ (M38.2.1 31 0 0)], M38, cl38)) (u := (634, [some (zR 32 0), some (zR 0 0), some (zR 18 0), some (zR 31 0), some (zI x4), some (zI r34), some (zI r37)], [zJ (M38.2.1 31 0 0)], M38, cl38)) rfl h.1 (fun c => ?_) (fun c => ?_)
          · replace h := h.2.1 c
            refine zT.it 1 (t := (639, [some (zR 32 0), some (zR 0 0), some (zR 18 0), some (zR 31 0), some (zI x4), some (zI r34), some (zI r37)], [zJ 0, zJ (M38.2.1 31 0 0)], M38, cl38)) rfl ?_
            refine zT.chk (p := zrl (M38.2.1 31 0 0) ∧ zrl 0) (t := (640, [some (zR 32 0), some (zR 0 0), some (zR 18 0), some (zR 31 0), some (zI x4), some (zI r34), some (zI r37)], [zI (z_cmp (M38.2.1 31 0 0) 0)], M38, cl38)) rfl h.1 ?_
            replace h := h.2
            refine zT.br (t := (645, [some (zR 32 0), some (zR 0 0), some (zR 18 0), some (zR 31 0), some (zI x4), some (zI r34), some (zI r37)], [], M38, cl38)) (u := (643, [some (zR 32 0), some (zR 0 0), some (zR 18 0), some (zR 31 0), some (zI x4), some (zI r34), some (zI r37)], [], M38, cl38)) rfl (z_cmp_r _ _) (fun c => ?_) (fun c => ?_)
            · replace h := h.1 (z_cmp_eq.1 c)
              refine zT.it 3 (t := (33, [some (zR 32 0), some (zR 0 0), some (zR 18 0), some (zR 31 0), some (zI (x4 + 3)), some (zI r34), some (zI r37)], [], M38, cl38)) rfl ?_
              exact h
            · replace h := h.2 (fun d => c (z_cmp_eq.2 d))
              refine zT.it 1 (t := (644, [some (zR 32 0), some (zR 0 0), some (zR 18 0), some (zR 31 0), some (zI x4), some (zI r34), some (zI r37)], [zI 0], M38, cl38)) rfl ?_
              exact zT.ret (v := some (zI 0)) rfl (by first | exact trivial | decide) h
          · replace h := h.2.2 c
            refine zT.it 2 (t := (639, [some (zR 32 0), some (zR 0 0), some (zR 18 0), some (zR 31 0), some (zI x4), some (zI r34), some (zI r37)], [zJ 1, zJ (M38.2.1 31 0 0)], M38, cl38)) rfl ?_
            refine zT.chk (p := zrl (M38.2.1 31 0 0) ∧ zrl 1) (t := (640, [some (zR 32 0), some (zR 0 0), some (zR 18 0), some (zR 31 0), some (zI x4), some (zI r34), some (zI r37)], [zI (z_cmp (M38.2.1 31 0 0) 1)], M38, cl38)) rfl h.1 ?_
            replace h := h.2
            refine zT.br (t := (645, [some (zR 32 0), some (zR 0 0), some (zR 18 0), some (zR 31 0), some (zI x4), some (zI r34), some (zI r37)], [], M38, cl38)) (u := (643, [some (zR 32 0), some (zR 0 0), some (zR 18 0), some (zR 31 0), some (zI x4), some (zI r34), some (zI r37)], [], M38, cl38)) rfl (z_cmp_r _ _) (fun c => ?_) (fun c => ?_)
            · replace h := h.1 (z_cmp_eq.1 c)
              refine zT.it 3 (t := (33, [some (zR 32 0), some (zR 0 0), some (zR 18 0), some (zR 31 0), some (zI (x4 + 3)), some (zI r34), some (zI r37)], [], M38, cl38)) rfl ?_
              exact h
            · replace h := h.2 (fun d => c (z_cmp_eq.2 d))
              refine zT.it 1 (t := (644, [some (zR 32 0), some (zR 0 0), some (zR 18 0), some (zR 31 0), some (zI x4), some (zI r34), some (zI r37)], [zI 0], M38, cl38)) rfl ?_
              exact zT.ret (v := some (zI 0)) rfl (by first | exact trivial | decide) h
      · replace h := h.2.2 c
        refine zT.it 1 (t := (620, [some (zR 32 0), some (zR 0 0), some (zR 18 0), some (zR 31 0), some (zI x4), some (zI r34), some (zI r37)], [zI 0], M38, cl38)) rfl ?_
        exact zT.ret (v := some (zI 0)) rfl (by first | exact trivial | decide) h
theorem g145_648_32 {x4 : Int} {u5 : Option zV} {u6 : Option zV} {M : zM} {cl : Bool} {Q : zQ} (h : zG 123 [zR 0 0, zR 31 0] M (fun v M39 d39 => ∃ r39 : Int, v = some (zI r39) ∧ ∀ cl39 : Bool, zF 124 [zR 18 0] M39 (fun v M40 => ∃ r40 : Int, v = some (zI r40) ∧ ∀ cl40 : Bool, zF 64 [zR 18 0] M40 (fun v M41 => ∃ r41 : Int, v = some (zI r41) ∧ ∀ cl41 : Bool, (zr r41 ∧ zr r39) ∧ ((r41 = r39 → (zr r39) ∧ ((¬ r39 = 0 → zT 145 (33, [some (zR 32 0), some (zR 0 0), some (zR 18 0), some (zR 31 0), some (zI (x4 + 3)), some (zI r39), some (zI r40)], [], M41, cl41) (fun o m c e => Q o m c (d39 + e))) ∧ (r39 = 0 → (zr r40) ∧ ((zrl (M41.2.1 31 0 0) ∧ zrl r40) ∧ (((M41.2.1 31 0 0) = r40 → zT 145 (33, [some (zR 32 0), some (zR 0 0), some (zR 18 0), some (zR 31 0), some (zI (x4 + 3)), some (zI r39), some (zI r40)], [], M41, cl41) (fun o m c e => Q o m c (d39 + e))) ∧ (¬ ((M41.2.1 31 0 0) = r40) → (fun o m c e => Q o m c (d39 + e)) (.inl (some (zI 0))) M41 cl41 0)))))) ∧ (¬ (r41 = r39) → (fun o m c e => Q o m c (d39 + e)) (.inl (some (zI 0))) M41 cl41 0)))))) : zT 145 (648, [some (zR 32 0), some (zR 0 0), some (zR 18 0), some (zR 31 0), some (zI x4), u5, u6], [], M, cl) Q := by
  refine zT.it 2 (t := (650, [some (zR 32 0), some (zR 0 0), some (zR 18 0), some (zR 31 0), some (zI x4), u5, u6], [zR 31 0, zR 0 0], M, cl)) rfl ?_
  refine zT.callG (m := 123) (as := [zR 0 0, zR 31 0]) (M := M) (L := [some (zR 32 0), some (zR 0 0), some (zR 18 0), some (zR 31 0), some (zI x4), u5, u6]) (st := []) (pn := 653) (cl := cl) rfl ?_
  refine zG.mono h (fun v M39 d39 h cl39 => ?_)
  obtain ⟨r39, e39, h⟩ := h; subst e39; replace h := h cl39
  show zT 145 (653, [some (zR 32 0), some (zR 0 0), some (zR 18 0), some (zR 31 0), some (zI x4), u5, u6], [zI r39], M39, cl39) _
  refine zT.it 2 (t := (656, [some (zR 32 0), some (zR 0 0), some (zR 18 0), some (zR 31 0), some (zI x4), some (zI r39), u6], [zR 18 0], M39, cl39)) rfl ?_
  refine zT.call (m := 124) (as := [zR 18 0]) (M := M39) (L := [some (zR 32 0), some (zR 0 0), some (zR 18 0), some (zR 31 0), some (zI x4), some (zI r39), u6]) (st := []) (pn := 659) (cl := cl39) rfl ?_
  refine zF.mono h (fun v M40 h cl40 => ?_)
  obtain ⟨r40, e40, h⟩ := h; subst e40; replace h := h cl40
  show zT 145 (659, [some (zR 32 0), some (zR 0 0), some (zR 18 0), some (zR 31 0), some (zI x4), some (zI r39), u6], [zI r40], M40, cl40) _
  refine zT.it 2 (t := (662, [some (zR 32 0), some (zR 0 0), some (zR 18 0), some (zR 31 0), some (zI x4), some (zI r39), some (zI r40)], [zR 18 0], M40, cl40)) rfl ?_
  refine zT.call (m := 64) (as := [zR 18 0]) (M := M40) (L := [some (zR 32 0), some (zR 0 0), some (zR 18 0), some (zR 31 0), some (zI x4), some (zI r39), some (zI r40)]) (st := []) (pn := 665) (cl := cl40) rfl ?_
  refine zF.mono h (fun v M41 h cl41 => ?_)
  obtain ⟨r41, e41, h⟩ := h; subst e41; replace h := h cl41
  show zT 145 (665, [some (zR 32 0), some (zR 0 0), some (zR 18 0), some (zR 31 0), some (zI x4), some (zI r39), some (zI r40)], [zI r41], M41, cl41) _
  refine zT.it 1 (t := (667, [some (zR 32 0), some (zR 0 0), some (zR 18 0), some (zR 31 0), some (zI x4), some (zI r39), some (zI r40)], [zI r39, zI r41], M41, cl41)) rfl ?_
  refine zT.br (g := zr r41 ∧ zr r39) (p := r41 = r39) (t := (672, [some (zR 32 0), some (zR 0 0), some (zR 18 0), some (zR 31 0), some (zI x4), some (zI r39), some (zI r40)], [], M41, cl41)) (u := (670, [some (zR 32 0), some (zR 0 0), some (zR 18 0), some (zR 31 0), some (zI x4), some (zI r39), some (zI r40)], [], M41, cl41)) rfl h.1 (fun c => ?_) (fun c => ?_)
  · replace h := h.2.1 c
    refine zT.it 1 (t := (674, [some (zR 32 0), some (zR 0 0), some (zR 18 0), some (zR 31 0), some (zI x4), some (zI r39), some (zI r40)], [zI r39], M41, cl41)) rfl ?_
    refine zT.br (g := zr r39) (p := ¬ r39 = 0) (t := (689, [some (zR 32 0), some (zR 0 0), some (zR 18 0), some (zR 31 0), some (zI x4), some (zI r39), some (zI r40)], [], M41, cl41)) (u := (677, [some (zR 32 0), some (zR 0 0), some (zR 18 0), some (zR 31 0), some (zI x4), some (zI r39), some (zI r40)], [], M41, cl41)) rfl h.1 (fun c => ?_) (fun c => ?_)
    · replace h := h.2.1 c
      refine zT.it 3 (t := (33, [some (zR 32 0), some (zR 0 0), some (zR 18 0), some (zR 31 0), some (zI (x4 + 3)), some (zI r39), some (zI r40)], [], M41, cl41)) rfl ?_
      exact h
    · replace h := h.2.2 (Decidable.not_not.1 c)
      refine zT.it 2 (t := (679, [some (zR 32 0), some (zR 0 0), some (zR 18 0), some (zR 31 0), some (zI x4), some (zI r39), some (zI r40)], [zI 0, zR 31 0], M41, cl41)) rfl ?_
      refine zT.chk (t := (680, [some (zR 32 0), some (zR 0 0), some (zR 18 0), some (zR 31 0), some (zI x4), some (zI r39), some (zI r40)], [zJ (M41.2.1 31 0 0)], M41, cl41)) rfl (by first | decide | (dsimp only; decide)) ?_
      refine zT.it 1 (t := (682, [some (zR 32 0), some (zR 0 0), some (zR 18 0), some (zR 31 0), some (zI x4), some (zI r39), some (zI r40)], [zI r40, zJ (M41.2.1 31 0 0)], M41, cl41)) rfl ?_
      refine zT.chk (p := zr r40) (t := (683, [some (zR 32 0), some (zR 0 0), some (zR 18 0), some (zR 31 0), some (zI x4), some (zI r39), some (zI r40)], [zJ r40, zJ (M41.2.1 31 0 0)], M41, cl41)) rfl h.1 ?_
      replace h := h.2
      refine zT.chk (p := zrl (M41.2.1 31 0 0) ∧ zrl r40) (t := (684, [some (zR 32 0), some (zR 0 0), some (zR 18 0), some (zR 31 0), some (zI x4), some (zI r39), some (zI r40)], [zI (z_cmp (M41.2.1 31 0 0) r40)], M41, cl41)) rfl h.1 ?_
      replace h := h.2
      refine zT.br (t := (689, [some (zR 32 0), some (zR 0 0), some (zR 18 0), some (zR 31 0), some (zI x4), some (zI r39), some (zI r40)], [], M41, cl41)) (u := (687, [some (zR 32 0), some (zR 0 0), some (zR 18 0), some (zR 31 0), some (zI x4), some (zI r39), some (zI r40)], [], M41, cl41)) rfl (z_cmp_r _ _) (fun c => ?_) (fun c => ?_)
      · replace h := h.1 (z_cmp_eq.1 c)
        refine zT.it 3 (t := (33, [some (zR 32 0), some (zR 0 0), some (zR 18 0), some (zR 31 0), some (zI (x4 + 3)), some (zI r39), some (zI r40)], [], M41, cl41)) rfl ?_
        exact h
      · replace h := h.2 (fun d => c (z_cmp_eq.2 d))
        refine zT.it 1 (t := (688, [some (zR 32 0), some (zR 0 0), some (zR 18 0), some (zR 31 0), some (zI x4), some (zI r39), some (zI r40)], [zI 0], M41, cl41)) rfl ?_
        exact zT.ret (v := some (zI 0)) rfl (by first | exact trivial | decide) h
  · replace h := h.2.2 c
    refine zT.it 1 (t := (671, [some (zR 32 0), some (zR 0 0), some (zR 18 0), some (zR 31 0), some (zI x4), some (zI r39), some (zI r40)], [zI 0], M41, cl41)) rfl ?_
    exact zT.ret (v := some (zI 0)) rfl (by first | exact trivial | decide) h
theorem g145_692_32 {x4 : Int} {u5 : Option zV} {u6 : Option zV} {M : zM} {cl : Bool} {Q : zQ} (h : (z_wi (x4 + 1) M.2.2) ∧ (zG 126 [zR 0 0, zI (M.1 32 0 ((x4 + 1).toNat))] M (fun v M42 d42 => ∃ r42 : Int, v = some (zI r42) ∧ ∀ cl42 : Bool, (z_wi (x4 + 1) M42.2.2) ∧ (zF 127 [zR 18 0, zI (M42.1 32 0 ((x4 + 1).toNat))] M42 (fun v M43 => v = none ∧ ∀ cl43 : Bool, zF 64 [zR 18 0] M43 (fun v M44 => ∃ r44 : Int, v = some (zI r44) ∧ ∀ cl44 : Bool, (zr r44 ∧ zr r42) ∧ ((r44 = r42 → zT 145 (33, [some (zR 32 0), some (zR 0 0), some (zR 18 0), some (zR 31 0), some (zI (x4 + 3)), some (zI r42), u6], [], M44, cl44) (fun o m c e => Q o m c (d42 + e))) ∧ (¬ (r44 = r42) → (fun o m c e => Q o m c (d42 + e)) (.inl (some (zI 0))) M44 cl44 0)))))))) : zT 145 (692, [some (zR 32 0), some (zR 0 0), some (zR 18 0), some (zR 31 0), some (zI x4), u5, u6], [], M, cl) Q := by
  refine zT.it 5 (t := (698, [some (zR 32 0), some (zR 0 0), some (zR 18 0), some (zR 31 0), some (zI x4), u5, u6], [zI (x4 + 1), zR 32 0, zR 0 0], M, cl)) rfl ?_
  refine zT.chk (p := z_wi (x4 + 1) M.2.2) (t := (699, [some (zR 32 0), some (zR 0 0), some (zR 18 0), some (zR 31 0), some (zI x4), u5, u6], [zI (M.1 32 0 ((x4 + 1).toNat)), zR 0 0], M, cl)) rfl h.1 ?_
  replace h := h.2
  refine zT.callG (m := 126) (as := [zR 0 0, zI (M.1 32 0 ((x4 + 1).toNat))]) (M := M) (L := [some (zR 32 0), some (zR 0 0), some (zR 18 0), some (zR 31 0), some (zI x4), u5, u6]) (st := []) (pn := 702) (cl := cl) rfl ?_
  refine zG.mono h (fun v M42 d42 h cl42 => ?_)
  obtain ⟨r42, e42, h⟩ := h; subst e42; replace h := h cl42
  show zT 145 (702, [some (zR 32 0), some (zR 0 0), some (zR 18 0), some (zR 31 0), some (zI x4), u5, u6], [zI r42], M42, cl42) _
  refine zT.it 6 (t := (710, [some (zR 32 0), some (zR 0 0), some (zR 18 0), some (zR 31 0), some (zI x4), some (zI r42), u6], [zI (x4 + 1), zR 32 0, zR 18 0], M42, cl42)) rfl ?_
  refine zT.chk (p := z_wi (x4 + 1) M42.2.2) (t := (711, [some (zR 32 0), some (zR 0 0), some (zR 18 0), some (zR 31 0), some (zI x4), some (zI r42), u6], [zI (M42.1 32 0 ((x4 + 1).toNat)), zR 18 0], M42, cl42)) rfl h.1 ?_
  replace h := h.2
  refine zT.call (m := 127) (as := [zR 18 0, zI (M42.1 32 0 ((x4 + 1).toNat))]) (M := M42) (L := [some (zR 32 0), some (zR 0 0), some (zR 18 0), some (zR 31 0), some (zI x4), some (zI r42), u6]) (st := []) (pn := 714) (cl := cl42) rfl ?_
  refine zF.mono h (fun v M43 h cl43 => ?_)
  obtain ⟨e43, h⟩ := h; subst e43; replace h := h cl43
  show zT 145 (714, [some (zR 32 0), some (zR 0 0), some (zR 18 0), some (zR 31 0), some (zI x4), some (zI r42), u6], [], M43, cl43) _
  refine zT.it 1 (t := (715, [some (zR 32 0), some (zR 0 0), some (zR 18 0), some (zR 31 0), some (zI x4), some (zI r42), u6], [zR 18 0], M43, cl43)) rfl ?_
  refine zT.call (m := 64) (as := [zR 18 0]) (M := M43) (L := [some (zR 32 0), some (zR 0 0), some (zR 18 0), some (zR 31 0), some (zI x4), some (zI r42), u6]) (st := []) (pn := 718) (cl := cl43) rfl ?_
  refine zF.mono h (fun v M44 h cl44 => ?_)
  obtain ⟨r44, e44, h⟩ := h; subst e44; replace h := h cl44
  show zT 145 (718, [some (zR 32 0), some (zR 0 0), some (zR 18 0), some (zR 31 0), some (zI x4), some (zI r42), u6], [zI r44], M44, cl44) _
  refine zT.it 1 (t := (720, [some (zR 32 0), some (zR 0 0), some (zR 18 0), some (zR 31 0), some (zI x4), some (zI r42), u6], [zI r42, zI r44], M44, cl44)) rfl ?_
  refine zT.br (g := zr r44 ∧ zr r42) (p := r44 = r42) (t := (725, [some (zR 32 0), some (zR 0 0), some (zR 18 0), some (zR 31 0), some (zI x4), some (zI r42), u6], [], M44, cl44)) (u := (723, [some (zR 32 0), some (zR 0 0), some (zR 18 0), some (zR 31 0), some (zI x4), some (zI r42), u6], [], M44, cl44)) rfl h.1 (fun c => ?_) (fun c => ?_)
  · replace h := h.2.1 c
    refine zT.it 3 (t := (33, [some (zR 32 0), some (zR 0 0), some (zR 18 0), some (zR 31 0), some (zI (x4 + 3)), some (zI r42), u6], [], M44, cl44)) rfl ?_
    exact h
  · replace h := h.2.2 c
    refine zT.it 1 (t := (724, [some (zR 32 0), some (zR 0 0), some (zR 18 0), some (zR 31 0), some (zI x4), some (zI r42), u6], [zI 0], M44, cl44)) rfl ?_
    exact zT.ret (v := some (zI 0)) rfl (by first | exact trivial | decide) h
theorem g145_728_32 {x4 : Int} {u5 : Option zV} {u6 : Option zV} {M : zM} {cl : Bool} {Q : zQ} (h : zG 132 [zR 0 0] M (fun v M45 d45 => ∃ r45 : Int, v = some (zI r45) ∧ ∀ cl45 : Bool, zF 134 [zR 18 0] M45 (fun v M46 => v = none ∧ ∀ cl46 : Bool, zF 64 [zR 18 0] M46 (fun v M47 => ∃ r47 : Int, v = some (zI r47) ∧ ∀ cl47 : Bool, (zr r47 ∧ zr r45) ∧ ((r47 = r45 → zT 145 (33, [some (zR 32 0), some (zR 0 0), some (zR 18 0), some (zR 31 0), some (zI (x4 + 3)), some (zI r45), u6], [], M47, cl47) (fun o m c e => Q o m c (d45 + e))) ∧ (¬ (r47 = r45) → (fun o m c e => Q o m c (d45 + e)) (.inl (some (zI 0))) M47 cl47 0)))))) : zT 145 (728, [some (zR 32 0), some (zR 0 0), some (zR 18 0), some (zR 31 0), some (zI x4), u5, u6], [], M, cl) Q := by
  refine zT.it 1 (t := (729, [some (zR 32 0), some (zR 0 0), some (zR 18 0), some (zR 31 0), some (zI x4), u5, u6], [zR 0 0], M, cl)) rfl ?_
  refine zT.callG (m := 132) (as := [zR 0 0]) (M := M) (L := [some (zR 32 0), some (zR 0 0), some (zR 18 0), some (zR 31 0), some (zI x4), u5, u6]) (st := []) (pn := 732) (cl := cl) rfl ?_
  refine zG.mono h (fun v M45 d45 h cl45 => ?_)
  obtain ⟨r45, e45, h⟩ := h; subst e45; replace h := h cl45
  show zT 145 (732, [some (zR 32 0), some (zR 0 0), some (zR 18 0), some (zR 31 0), some (zI x4), u5, u6], [zI r45], M45, cl45) _
  refine zT.it 2 (t := (735, [some (zR 32 0), some (zR 0 0), some (zR 18 0), some (zR 31 0), some (zI x4), some (zI r45), u6], [zR 18 0], M45, cl45)) rfl ?_
  refine zT.call (m := 134) (as := [zR 18 0]) (M := M45) (L := [some (zR 32 0), some (zR 0 0), some (zR 18 0), some (zR 31 0), some (zI x4), some (zI r45), u6]) (st := []) (pn := 738) (cl := cl45) rfl ?_
  refine zF.mono h (fun v M46 h cl46 => ?_)
  obtain ⟨e46, h⟩ := h; subst e46; replace h := h cl46
  show zT 145 (738, [some (zR 32 0), some (zR 0 0), some (zR 18 0), some (zR 31 0), some (zI x4), some (zI r45), u6], [], M46, cl46) _
  refine zT.it 1 (t := (739, [some (zR 32 0), some (zR 0 0), some (zR 18 0), some (zR 31 0), some (zI x4), some (zI r45), u6], [zR 18 0], M46, cl46)) rfl ?_
  refine zT.call (m := 64) (as := [zR 18 0]) (M := M46) (L := [some (zR 32 0), some (zR 0 0), some (zR 18 0), some (zR 31 0), some (zI x4), some (zI r45), u6]) (st := []) (pn := 742) (cl := cl46) rfl ?_
  refine zF.mono h (fun v M47 h cl47 => ?_)
  obtain ⟨r47, e47, h⟩ := h; subst e47; replace h := h cl47
  show zT 145 (742, [some (zR 32 0), some (zR 0 0), some (zR 18 0), some (zR 31 0), some (zI x4), some (zI r45), u6], [zI r47], M47, cl47) _
  refine zT.it 1 (t := (744, [some (zR 32 0), some (zR 0 0), some (zR 18 0), some (zR 31 0), some (zI x4), some (zI r45), u6], [zI r45, zI r47], M47, cl47)) rfl ?_
  refine zT.br (g := zr r47 ∧ zr r45) (p := r47 = r45) (t := (749, [some (zR 32 0), some (zR 0 0), some (zR 18 0), some (zR 31 0), some (zI x4), some (zI r45), u6], [], M47, cl47)) (u := (747, [some (zR 32 0), some (zR 0 0), some (zR 18 0), some (zR 31 0), some (zI x4), some (zI r45), u6], [], M47, cl47)) rfl h.1 (fun c => ?_) (fun c => ?_)
  · replace h := h.2.1 c
    refine zT.it 3 (t := (33, [some (zR 32 0), some (zR 0 0), some (zR 18 0), some (zR 31 0), some (zI (x4 + 3)), some (zI r45), u6], [], M47, cl47)) rfl ?_
    exact h
  · replace h := h.2.2 c
    refine zT.it 1 (t := (748, [some (zR 32 0), some (zR 0 0), some (zR 18 0), some (zR 31 0), some (zI x4), some (zI r45), u6], [zI 0], M47, cl47)) rfl ?_
    exact zT.ret (v := some (zI 0)) rfl (by first | exact trivial | decide) h
theorem g145_752_32 {x4 : Int} {u5 : Option zV} {u6 : Option zV} {M : zM} {cl : Bool} {Q : zQ} (h : zG 137 [zR 0 0] M (fun v M48 d48 => ∃ r48 : Int, v = some (zI r48) ∧ ∀ cl48 : Bool, zF 138 [zR 18 0] M48 (fun v M49 => v = none ∧ ∀ cl49 : Bool, zF 64 [zR 18 0] M49 (fun v M50 => ∃ r50 : Int, v = some (zI r50) ∧ ∀ cl50 : Bool, (zr r50 ∧ zr r48) ∧ ((r50 = r48 → zT 145 (33, [some (zR 32 0), some (zR 0 0), some (zR 18 0), some (zR 31 0), some (zI (x4 + 3)), some (zI r48), u6], [], M50, cl50) (fun o m c e => Q o m c (d48 + e))) ∧ (¬ (r50 = r48) → (fun o m c e => Q o m c (d48 + e)) (.inl (some (zI 0))) M50 cl50 0)))))) : zT 145 (752, [some (zR 32 0), some (zR 0 0), some (zR 18 0), some (zR 31 0), some (zI x4), u5, u6], [], M, cl) Q := by
  refine zT.it 1 (t := (753, [some (zR 32 0), some (zR 0 0), some (zR 18 0), some (zR 31 0), some (zI x4), u5, u6], [zR 0 0], M, cl)) rfl ?_
  refine zT.callG (m := 137) (as := [zR 0 0]) (M := M) (L := [some (zR 32 0), some (zR 0 0), some (zR 18 0), some (zR 31 0), some (zI x4), u5, u6]) (st := []) (pn := 756) (cl := cl) rfl ?_
  refine zG.mono h (fun v M48 d48 h cl48 => ?_)
  obtain ⟨r48, e48, h⟩ := h; subst e48; replace h := h cl48
  show zT 145 (756, [some (zR 32 0), some (zR 0 0), some (zR 18 0), some (zR 31 0), some (zI x4), u5, u6], [zI r48], M48, cl48) _
  refine zT.it 2 (t := (759, [some (zR 32 0), some (zR 0 0), some (zR 18 0), some (zR 31 0), some (zI x4), some (zI r48), u6], [zR 18 0], M48, cl48)) rfl ?_
  refine zT.call (m := 138) (as := [zR 18 0]) (M := M48) (L := [some (zR 32 0), some (zR 0 0), some (zR 18 0), some (zR 31 0), some (zI x4), some (zI r48), u6]) (st := []) (pn := 762) (cl := cl48) rfl ?_
  refine zF.mono h (fun v M49 h cl49 => ?_)
  obtain ⟨e49, h⟩ := h; subst e49; replace h := h cl49
  show zT 145 (762, [some (zR 32 0), some (zR 0 0), some (zR 18 0), some (zR 31 0), some (zI x4), some (zI r48), u6], [], M49, cl49) _
  refine zT.it 1 (t := (763, [some (zR 32 0), some (zR 0 0), some (zR 18 0), some (zR 31 0), some (zI x4), some (zI r48), u6], [zR 18 0], M49, cl49)) rfl ?_
  refine zT.call (m := 64) (as := [zR 18 0]) (M := M49) (L := [some (zR 32 0), some (zR 0 0), some (zR 18 0), some (zR 31 0), some (zI x4), some (zI r48), u6]) (st := []) (pn := 766) (cl := cl49) rfl ?_
  refine zF.mono h (fun v M50 h cl50 => ?_)
  obtain ⟨r50, e50, h⟩ := h; subst e50; replace h := h cl50
  show zT 145 (766, [some (zR 32 0), some (zR 0 0), some (zR 18 0), some (zR 31 0), some (zI x4), some (zI r48), u6], [zI r50], M50, cl50) _
  refine zT.it 1 (t := (768, [some (zR 32 0), some (zR 0 0), some (zR 18 0), some (zR 31 0), some (zI x4), some (zI r48), u6], [zI r48, zI r50], M50, cl50)) rfl ?_
  refine zT.br (g := zr r50 ∧ zr r48) (p := r50 = r48) (t := (773, [some (zR 32 0), some (zR 0 0), some (zR 18 0), some (zR 31 0), some (zI x4), some (zI r48), u6], [], M50, cl50)) (u := (771, [some (zR 32 0), some (zR 0 0), some (zR 18 0), some (zR 31 0), some (zI x4), some (zI r48), u6], [], M50, cl50)) rfl h.1 (fun c => ?_) (fun c => ?_)
  · replace h := h.2.1 c
    refine zT.it 3 (t := (33, [some (zR 32 0), some (zR 0 0), some (zR 18 0), some (zR 31 0), some (zI (x4 + 3)), some (zI r48), u6], [], M50, cl50)) rfl ?_
    exact h
  · replace h := h.2.2 c
    refine zT.it 1 (t := (772, [some (zR 32 0), some (zR 0 0), some (zR 18 0), some (zR 31 0), some (zI x4), some (zI r48), u6], [zI 0], M50, cl50)) rfl ?_
    exact zT.ret (v := some (zI 0)) rfl (by first | exact trivial | decide) h
theorem g145_776_32 {x4 : Int} {u5 : Option zV} {u6 : Option zV} {M : zM} {cl : Bool} {Q : zQ} (h : zG 140 [zR 0 0, zR 31 0] M (fun v M51 d51 => ∃ r51 : Int, v = some (zI r51) ∧ ∀ cl51 : Bool, zF 141 [zR 18 0] M51 (fun v M52 => ∃ r52 : Int, v = some (zI r52) ∧ ∀ cl52 : Bool, zF 64 [zR 18 0] M52 (fun v M53 => ∃ r53 : Int, v = some (zI r53) ∧ ∀ cl53 : Bool, (zr r53 ∧ zr r51) ∧ ((r53 = r51 → (zr r51) ∧ ((¬ r51 = 0 → zT 145 (33, [some (zR 32 0), some (zR 0 0), some (zR 18 0), some (zR 31 0), some (zI (x4 + 3)), some (zI r51), some (zI r52)], [], M53, cl53) (fun o m c e => Q o m c (d51 + e))) ∧ (r51 = 0 → (zr r52) ∧ ((zrl (M53.2.1 31 0 0) ∧ zrl r52) ∧ (((M53.2.1 31 0 0) = r52 → zT 145 (33, [some (zR 32 0), some (zR 0 0), some (zR 18 0), some (zR 31 0), some (zI (x4 + 3)), some (zI r51), some (zI r52)], [], M53, cl53) (fun o m c e => Q o m c (d51 + e))) ∧ (¬ ((M53.2.1 31 0 0) = r52) → (fun o m c e => Q o m c (d51 + e)) (.inl (some (zI 0))) M53 cl53 0)))))) ∧ (¬ (r53 = r51) → (fun o m c e => Q o m c (d51 + e)) (.inl (some (zI 0))) M53 cl53 0)))))) : zT 145 (776, [some (zR 32 0), some (zR 0 0), some (zR 18 0), some (zR 31 0), some (zI x4), u5, u6], [], M, cl) Q := by
  refine zT.it 2 (t := (778, [some (zR 32 0), some (zR 0 0), some (zR 18 0), some (zR 31 0), some (zI x4), u5, u6], [zR 31 0, zR 0 0], M, cl)) rfl ?_
  refine zT.callG (m := 140) (as := [zR 0 0, zR 31 0]) (M := M) (L := [some (zR 32 0), some (zR 0 0), some (zR 18 0), some (zR 31 0), some (zI x4), u5, u6]) (st := []) (pn := 781) (cl := cl) rfl ?_
  refine zG.mono h (fun v M51 d51 h cl51 => ?_)
  obtain ⟨r51, e51, h⟩ := h; subst e51; replace h := h cl51
  show zT 145 (781, [some (zR 32 0), some (zR 0 0), some (zR 18 0), some (zR 31 0), some (zI x4), u5, u6], [zI r51], M51, cl51) _
  refine zT.it 2 (t := (784, [some (zR 32 0), some (zR 0 0), some (zR 18 0), some (zR 31 0), some (zI x4), some (zI r51), u6], [zR 18 0], M51, cl51)) rfl ?_
  refine zT.call (m := 141) (as := [zR 18 0]) (M := M51) (L := [some (zR 32 0), some (zR 0 0), some (zR 18 0), some (zR 31 0), some (zI x4), some (zI r51), u6]) (st := []) (pn := 787) (cl := cl51) rfl ?_
  refine zF.mono h (fun v M52 h cl52 => ?_)
  obtain ⟨r52, e52, h⟩ := h; subst e52; replace h := h cl52
  show zT 145 (787, [some (zR 32 0), some (zR 0 0), some (zR 18 0), some (zR 31 0), some (zI x4), some (zI r51), u6], [zI r52], M52, cl52) _
  refine zT.it 2 (t := (790, [some (zR 32 0), some (zR 0 0), some (zR 18 0), some (zR 31 0), some (zI x4), some (zI r51), some (zI r52)], [zR 18 0], M52, cl52)) rfl ?_
  refine zT.call (m := 64) (as := [zR 18 0]) (M := M52) (L := [some (zR 32 0), some (zR 0 0), some (zR 18 0), some (zR 31 0), some (zI x4), some (zI r51), some (zI r52)]) (st := []) (pn := 793) (cl := cl52) rfl ?_
  refine zF.mono h (fun v M53 h cl53 => ?_)
  obtain ⟨r53, e53, h⟩ := h; subst e53; replace h := h cl53
  show zT 145 (793, [some (zR 32 0), some (zR 0 0), some (zR 18 0), some (zR 31 0), some (zI x4), some (zI r51), some (zI r52)], [zI r53], M53, cl53) _
  refine zT.it 1 (t := (795, [some (zR 32 0), some (zR 0 0), some (zR 18 0), some (zR 31 0), some (zI x4), some (zI r51), some (zI r52)], [zI r51, zI r53], M53, cl53)) rfl ?_
  refine zT.br (g := zr r53 ∧ zr r51) (p := r53 = r51) (t := (800, [some (zR 32 0), some (zR 0 0), some (zR 18 0), some (zR 31 0), some (zI x4), some (zI r51), some (zI r52)], [], M53, cl53)) (u := (798, [some (zR 32 0), some (zR 0 0), some (zR 18 0), some (zR 31 0), some (zI x4), some (zI r51), some (zI r52)], [], M53, cl53)) rfl h.1 (fun c => ?_) (fun c => ?_)
  · replace h := h.2.1 c
    refine zT.it 1 (t := (802, [some (zR 32 0), some (zR 0 0), some (zR 18 0), some (zR 31 0), some (zI x4), some (zI r51), some (zI r52)], [zI r51], M53, cl53)) rfl ?_
    refine zT.br (g := zr r51) (p := ¬ r51 = 0) (t := (817, [some (zR 32 0), some (zR 0 0), some (zR 18 0), some (zR 31 0), some (zI x4), some (zI r51), some (zI r52)], [], M53, cl53)) (u := (805, [some (zR 32 0), some (zR 0 0), some (zR 18 0), some (zR 31 0), some (zI x4), some (zI r51), some (zI r52)], [], M53, cl53)) rfl h.1 (fun c => ?_) (fun c => ?_)
    · replace h := h.2.1 c
      refine zT.it 3 (t := (33, [some (zR 32 0), some (zR 0 0), some (zR 18 0), some (zR 31 0), some (zI (x4 + 3)), some (zI r51), some (zI r52)], [], M53, cl53)) rfl ?_
      exact h
    · replace h := h.2.2 (Decidable.not_not.1 c)
      refine zT.it 2 (t := (807, [some (zR 32 0), some (zR 0 0), some (zR 18 0), some (zR 31 0), some (zI x4), some (zI r51), some (zI r52)], [zI 0, zR 31 0], M53, cl53)) rfl ?_
      refine zT.chk (t := (808, [some (zR 32 0), some (zR 0 0), some (zR 18 0), some (zR 31 0), some (zI x4), some (zI r51), some (zI r52)], [zJ (M53.2.1 31 0 0)], M53, cl53)) rfl (by first | decide | (dsimp only; decide)) ?_
      refine zT.it 1 (t := (810, [some (zR 32 0), some (zR 0 0), some (zR 18 0), some (zR 31 0), some (zI x4), some (zI r51), some (zI r52)], [zI r52, zJ (M53.2.1 31 0 0)], M53, cl53)) rfl ?_
      refine zT.chk (p := zr r52) (t := (811, [some (zR 32 0), some (zR 0 0), some (zR 18 0), some (zR 31 0), some (zI x4), some (zI r51), some (zI r52)], [zJ r52, zJ (M53.2.1 31 0 0)], M53, cl53)) rfl h.1 ?_
      replace h := h.2
      refine zT.chk (p := zrl (M53.2.1 31 0 0) ∧ zrl r52) (t := (812, [some (zR 32 0), some (zR 0 0), some (zR 18 0), some (zR 31 0), some (zI x4), some (zI r51), some (zI r52)], [zI (z_cmp (M53.2.1 31 0 0) r52)], M53, cl53)) rfl h.1 ?_
      replace h := h.2
      refine zT.br (t := (817, [some (zR 32 0), some (zR 0 0), some (zR 18 0), some (zR 31 0), some (zI x4), some (zI r51), some (zI r52)], [], M53, cl53)) (u := (815, [some (zR 32 0), some (zR 0 0), some (zR 18 0), some (zR 31 0), some (zI x4), some (zI r51), some (zI r52)], [], M53, cl53)) rfl (z_cmp_r _ _) (fun c => ?_) (fun c => ?_)
      · replace h := h.1 (z_cmp_eq.1 c)
        refine zT.it 3 (t := (33, [some (zR 32 0), some (zR 0 0), some (zR 18 0), some (zR 31 0), some (zI (x4 + 3)), some (zI r51), some (zI r52)], [], M53, cl53)) rfl ?_
        exact h
      · replace h := h.2 (fun d => c (z_cmp_eq.2 d))
        refine zT.it 1 (t := (816, [some (zR 32 0), some (zR 0 0), some (zR 18 0), some (zR 31 0), some (zI x4), some (zI r51), some (zI r52)], [zI 0], M53, cl53)) rfl ?_
        exact zT.ret (v := some (zI 0)) rfl (by first | exact trivial | decide) h
  · replace h := h.2.2 c
    refine zT.it 1 (t := (799, [some (zR 32 0), some (zR 0 0), some (zR 18 0), some (zR 31 0), some (zI x4), some (zI r51), some (zI r52)], [zI 0], M53, cl53)) rfl ?_
    exact zT.ret (v := some (zI 0)) rfl (by first | exact trivial | decide) h
theorem g145_820_32 {x4 : Int} {u5 : Option zV} {u6 : Option zV} {M : zM} {cl : Bool} {Q : zQ} (h : (z_wi (x4 + 1) M.2.2) ∧ ((z_wi (x4 + 2) M.2.2) ∧ (zG 143 [zR 0 0, zI (M.1 32 0 ((x4 + 1).toNat)), zI (M.1 32 0 ((x4 + 2).toNat)), zR 31 0] M (fun v M54 d54 => ∃ r54 : Int, v = some (zI r54) ∧ ∀ cl54 : Bool, (z_wi (x4 + 1) M54.2.2) ∧ ((z_wi (x4 + 2) M54.2.2) ∧ (zF 144 [zR 18 0, zI (M54.1 32 0 ((x4 + 1).toNat)), zI (M54.1 32 0 ((x4 + 2).toNat))] M54 (fun v M55 => ∃ r55 : Int, v = some (zI r55) ∧ ∀ cl55 : Bool, zF 64 [zR 18 0] M55 (fun v M56 => ∃ r56 : Int, v = some (zI r56) ∧ ∀ cl56 : Bool, (zr r56 ∧ zr r54) ∧ ((r56 = r54 → (zr r54) ∧ ((¬ r54 = 0 → zT 145 (33, [some (zR 32 0), some (zR 0 0), some (zR 18 0), some (zR 31 0), some (zI (x4 + 3)), some (zI r54), some (zI r55)], [], M56, cl56) (fun o m c e => Q o m c (d54 + e))) ∧ (r54 = 0 → (zr r55) ∧ ((zrl (M56.2.1 31 0 0) ∧ zrl r55) ∧ (((M56.2.1 31 0 0) = r55 → zT 145 (33, [some (zR 32 0), some (zR 0 0), some (zR 18 0), some (zR 31 0), some (zI (x4 + 3)), some (zI r54), some (zI r55)], [], M56, cl56) (fun o m c e => Q o m c (d54 + e))) ∧ (¬ ((M56.2.1 31 0 0) = r55) → (fun o m c e => Q o m c (d54 + e)) (.inl (some (zI 0))) M56 cl56 0)))))) ∧ (¬ (r56 = r54) → (fun o m c e => Q o m c (d54 + e)) (.inl (some (zI 0))) M56 cl56 0)))))))))) : zT 145 (820, [some (zR 32 0), some (zR 0 0), some (zR 18 0), some (zR 31 0), some (zI x4), u5, u6], [], M, cl) Q := by
  refine zT.it 5 (t := (826, [some (zR 32 0), some (zR 0 0), some (zR 18 0), some (zR 31 0), some (zI x4), u5, u6], [zI (x4 + 1), zR 32 0, zR 0 0], M, cl)) rfl ?_
  refine zT.chk (p := z_wi (x4 + 1) M.2.2) (t := (827, [some (zR 32 0), some (zR 0 0), some (zR 18 0), some (zR 31 0), some (zI x4), u5, u6], [zI (M.1 32 0 ((x4 + 1).toNat)), zR 0 0], M, cl)) rfl h.1 ?_
  replace h := h.2
  refine zT.it 4 (t := (832, [some (zR 32 0), some (zR 0 0), some (zR 18 0), some (zR 31 0), some (zI x4), u5, u6], [zI (x4 + 2), zR 32 0, zI (M.1 32 0 ((x4 + 1).toNat)), zR 0 0], M, cl)) rfl ?_
  refine zT.chk (p := z_wi (x4 + 2) M.2.2) (t := (833, [some (zR 32 0), some (zR 0 0), some (zR 18 0), some (zR 31 0), some (zI x4), u5, u6], [zI (M.1 32 0 ((x4 + 2).toNat)), zI (M.1 32 0 ((x4 + 1).toNat)), zR 0 0], M, cl)) rfl h.1 ?_
  replace h := h.2
  refine zT.it 1 (t := (834, [some (zR 32 0), some (zR 0 0), some (zR 18 0), some (zR 31 0), some (zI x4), u5, u6], [zR 31 0, zI (M.1 32 0 ((x4 + 2).toNat)), zI (M.1 32 0 ((x4 + 1).toNat)), zR 0 0], M, cl)) rfl ?_
  refine zT.callG (m := 143) (as := [zR 0 0, zI (M.1 32 0 ((x4 + 1).toNat)), zI (M.1 32 0 ((x4 + 2).toNat)), zR 31 0]) (M := M) (L := [some (zR 32 0), some (zR 0 0), some (zR 18 0), some (zR 31 0), some (zI x4), u5, u6]) (st := []) (pn := 837) (cl := cl) rfl ?_
  refine zG.mono h (fun v M54 d54 h cl54 => ?_)
  obtain ⟨r54, e54, h⟩ := h; subst e54; replace h := h cl54
  show zT 145 (837, [some (zR 32 0), some (zR 0 0), some (zR 18 0), some (zR 31 0), some (zI x4), u5, u6], [zI r54], M54, cl54) _
  refine zT.it 6 (t := (845, [some (zR 32 0), some (zR 0 0), some (zR 18 0), some (zR 31 0), some (zI x4), some (zI r54), u6], [zI (x4 + 1), zR 32 0, zR 18 0], M54, cl54)) rfl ?_
  refine zT.chk (p := z_wi (x4 + 1) M54.2.2) (t := (846, [some (zR 32 0), some (zR 0 0), some (zR 18 0), some (zR 31 0), some (zI x4), some (zI r54), u6], [zI (M54.1 32 0 ((x4 + 1).toNat)), zR 18 0], M54, cl54)) rfl h.1 ?_
  replace h := h.2
  refine zT.it 4 (t := (851, [some (zR 32 0), some (zR 0 0), some (zR 18 0), some (zR 31 0), some (zI x4), some (zI r54), u6], [zI (x4 + 2), zR 32 0, zI (M54.1 32 0 ((x4 + 1).toNat)), zR 18 0], M54, cl54)) rfl ?_
  refine zT.chk (p := z_wi (x4 + 2) M54.2.2) (t := (852, [some (zR 32 0), some (zR 0 0), some (zR 18 0), some (zR 31 0), some (zI x4), some (zI r54), u6], [zI (M54.1 32 0 ((x4 + 2).toNat)), zI (M54.1 32 0 ((x4 + 1).toNat)), zR 18 0], M54, cl54)) rfl h.1 ?_
  replace h := h.2
  refine zT.call (m := 144) (as := [zR 18 0, zI (M54.1 32 0 ((x4 + 1).toNat)), zI (M54.1 32 0 ((x4 + 2).toNat))]) (M := M54) (L := [some (zR 32 0), some (zR 0 0), some (zR 18 0), some (zR 31 0), some (zI x4), some (zI r54), u6]) (st := []) (pn := 855) (cl := cl54) rfl ?_
  refine zF.mono h (fun v M55 h cl55 => ?_)
  obtain ⟨r55, e55, h⟩ := h; subst e55; replace h := h cl55
  show zT 145 (855, [some (zR 32 0), some (zR 0 0), some (zR 18 0), some (zR 31 0), some (zI x4), some (zI r54), u6], [zI r55], M55, cl55) _
  refine zT.it 2 (t := (858, [some (zR 32 0), some (zR 0 0), some (zR 18 0), some (zR 31 0), some (zI x4), some (zI r54), some (zI r55)], [zR 18 0], M55, cl55)) rfl ?_
  refine zT.call (m := 64) (as := [zR 18 0]) (M := M55) (L := [some (zR 32 0), some (zR 0 0), some (zR 18 0), some (zR 31 0), some (zI x4), some (zI r54), some (zI r55)]) (st := []) (pn := 861) (cl := cl55) rfl ?_
  refine zF.mono h (fun v M56 h cl56 => ?_)
  obtain ⟨r56, e56, h⟩ := h; subst e56; replace h := h cl56
  show zT 145 (861, [some (zR 32 0), some (zR 0 0), some (zR 18 0), some (zR 31 0), some (zI x4), some (zI r54), some (zI r55)], [zI r56], M56, cl56) _
  refine zT.it 1 (t := (863, [some (zR 32 0), some (zR 0 0), some (zR 18 0), some (zR 31 0), some (zI x4), some (zI r54), some (zI r55)], [zI r54, zI r56], M56, cl56)) rfl ?_
  refine zT.br (g := zr r56 ∧ zr r54) (p := r56 = r54) (t := (868, [some (zR 32 0), some (zR 0 0), some (zR 18 0), some (zR 31 0), some (zI x4), some (zI r54), some (zI r55)], [], M56, cl56)) (u := (866, [some (zR 32 0), some (zR 0 0), some (zR 18 0), some (zR 31 0), some (zI x4), some (zI r54), some (zI r55)], [], M56, cl56)) rfl h.1 (fun c => ?_) (fun c => ?_)
  · replace h := h.2.1 c
    refine zT.it 1 (t := (870, [some (zR 32 0), some (zR 0 0), some (zR 18 0), some (zR 31 0), some (zI x4), some (zI r54), some (zI r55)], [zI r54], M56, cl56)) rfl ?_
    refine zT.br (g := zr r54) (p := ¬ r54 = 0) (t := (885, [some (zR 32 0), some (zR 0 0), some (zR 18 0), some (zR 31 0), some (zI x4), some (zI r54), some (zI r55)], [], M56, cl56)) (u := (873, [some (zR 32 0), some (zR 0 0), some (zR 18 0), some (zR 31 0), some (zI x4), some (zI r54), some (zI r55)], [], M56, cl56)) rfl h.1 (fun c => ?_) (fun c => ?_)
    · replace h := h.2.1 c
      refine zT.it 3 (t := (33, [some (zR 32 0), some (zR 0 0), some (zR 18 0), some (zR 31 0), some (zI (x4 + 3)), some (zI r54), some (zI r55)], [], M56, cl56)) rfl ?_
      exact h
    · replace h := h.2.2 (Decidable.not_not.1 c)
      refine zT.it 2 (t := (875, [some (zR 32 0), some (zR 0 0), some (zR 18 0), some (zR 31 0), some (zI x4), some (zI r54), some (zI r55)], [zI 0, zR 31 0], M56, cl56)) rfl ?_
      refine zT.chk (t := (876, [some (zR 32 0), some (zR 0 0), some (zR 18 0), some (zR 31 0), some (zI x4), some (zI r54), some (zI r55)], [zJ (M56.2.1 31 0 0)], M56, cl56)) rfl (by first | decide | (dsimp only; decide)) ?_
      refine zT.it 1 (t := (878, [some (zR 32 0), some (zR 0 0), some (zR 18 0), some (zR 31 0), some (zI x4), some (zI r54), some (zI r55)], [zI r55, zJ (M56.2.1 31 0 0)], M56, cl56)) rfl ?_
      refine zT.chk (p := zr r55) (t := (879, [some (zR 32 0), some (zR 0 0), some (zR 18 0), some (zR 31 0), some (zI x4), some (zI r54), some (zI r55)], [zJ r55, zJ (M56.2.1 31 0 0)], M56, cl56)) rfl h.1 ?_
      replace h := h.2
      refine zT.chk (p := zrl (M56.2.1 31 0 0) ∧ zrl r55) (t := (880, [some (zR 32 0), some (zR 0 0), some (zR 18 0), some (zR 31 0), some (zI x4), some (zI r54), some (zI r55)], [zI (z_cmp (M56.2.1 31 0 0) r55)], M56, cl56)) rfl h.1 ?_
      replace h := h.2
      refine zT.br (t := (885, [some (zR 32 0), some (zR 0 0), some (zR 18 0), some (zR 31 0), some (zI x4), some (zI r54), some (zI r55)], [], M56, cl56)) (u := (883, [some (zR 32 0), some (zR 0 0), some (zR 18 0), some (zR 31 0), some (zI x4), some (zI r54), some (zI r55)], [], M56, cl56)) rfl (z_cmp_r _ _) (fun c => ?_) (fun c => ?_)
      · replace h := h.1 (z_cmp_eq.1 c)
        refine zT.it 3 (t := (33, [some (zR 32 0), some (zR 0 0), some (zR 18 0), some (zR 31 0), some (zI (x4 + 3)), some (zI r54), some (zI r55)], [], M56, cl56)) rfl ?_
        exact h
      · replace h := h.2 (fun d => c (z_cmp_eq.2 d))
        refine zT.it 1 (t := (884, [some (zR 32 0), some (zR 0 0), some (zR 18 0), some (zR 31 0), some (zI x4), some (zI r54), some (zI r55)], [zI 0], M56, cl56)) rfl ?_
        exact zT.ret (v := some (zI 0)) rfl (by first | exact trivial | decide) h
  · replace h := h.2.2 c
    refine zT.it 1 (t := (867, [some (zR 32 0), some (zR 0 0), some (zR 18 0), some (zR 31 0), some (zI x4), some (zI r54), some (zI r55)], [zI 0], M56, cl56)) rfl ?_
    exact zT.ret (v := some (zI 0)) rfl (by first | exact trivial | decide) h
