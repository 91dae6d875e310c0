-- A call of a method that neither throws nor writes. (own work)
theorem zT.callc {k m pc pn : Nat} {s : zL × List zV × zM × Bool} {as : List zV} {L : zL} {st : List zV} {M : zM} {cl : Bool} {Q : zQ} (hs : z_step k (pc, s) = zoK m as (pn, L, st, M, cl))
    (hm : zX m as M (fun v M' c => zT k (pn, L, v.toList ++ st, M', cl && c) Q) (fun _ _ => False)) : zT k (pc, s) Q := by
  refine zT.callg hs hm fun o M' c e hq => ?_
  cases o with
  | inl v =>
    obtain ⟨h1, h2⟩ := hq
    subst h1
    refine Or.inl ⟨v, rfl, zT.mono h2 fun o m' c' e' h => ?_⟩
    rw [Nat.zero_add]; exact h
  | inr x => exact hq.2.2.elim
theorem g129_0x {M : zM} {Q : zQ} (h : zX 128 [zR 12 0, zI 1, zI 3] M (fun v M1 c => c = true ∧ ∃ r1 : Int, v = some (zI r1) ∧ zX 128 [zR 12 0, zI 0, zI 3] M1 (fun v M2 c => c = true ∧ ∃ r2 : Int, v = some (zI r2) ∧ (zr r1 ∧ zr r2) ∧ ((r1 ≤ r2 → Q (.inl (some (zI 0))) M2 true 0) ∧ (¬ (r1 ≤ r2) → Q (.inl (some (zI 1))) M2 true 0))) (fun _ _ => False)) (fun _ _ => False)) : zT 129 (0, [some (zR 12 0)], [], M, true) Q := by
  refine zT.it 3 (t := (3, [some (zR 12 0)], [zI 3, zI 1, zR 12 0], M, true)) rfl ?_
  refine zT.callc (m := 128) (as := [zR 12 0, zI 1, zI 3]) (M := M) (L := [some (zR 12 0)]) (st := []) (pn := 6) (cl := true) rfl ?_
  refine zX.mono h (fun v M1 c h => ?_) (fun _ _ h => h)
  obtain ⟨hc, r1, e1, h⟩ := h; subst hc; subst e1
  show zT 129 (6, [some (zR 12 0)], [zI r1], M1, true) _
  refine zT.it 3 (t := (9, [some (zR 12 0)], [zI 3, zI 0, zR 12 0, zI r1], M1, true)) rfl ?_
  refine zT.callc (m := 128) (as := [zR 12 0, zI 0, zI 3]) (M := M1) (L := [some (zR 12 0)]) (st := [zI r1]) (pn := 12) (cl := true) rfl ?_
  refine zX.mono h (fun v M2 c h => ?_) (fun _ _ h => h)
  obtain ⟨hc, r2, e2, h⟩ := h; subst hc; subst e2
  show zT 129 (12, [some (zR 12 0)], [zI r2, zI r1], M2, true) _
  refine zT.br (g := zr r1 ∧ zr r2) (p := r1 ≤ r2) (t := (19, [some (zR 12 0)], [], M2, true)) (u := (15, [some (zR 12 0)], [], M2, true)) rfl h.1 (fun c => ?_) (fun c => ?_)
  · replace h := h.2.1 c
    refine zT.it 1 (t := (20, [some (zR 12 0)], [zI 0], M2, true)) rfl ?_
    exact zT.ret (v := some (zI 0)) rfl (by first | exact trivial | decide) h
  · replace h := h.2.2 c
    refine zT.it 2 (t := (20, [some (zR 12 0)], [zI 1], M2, true)) rfl ?_
    exact zT.ret (v := some (zI 1)) rfl (by first | exact trivial | decide) h
