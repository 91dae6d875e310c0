-- Targets of moves, the second half. (own work)
def iab (a : Int) : Int := if 0 ≤ a then a else -a
theorem iab_r (a : Int) : (0 ≤ a ∧ iab a = a) ∨ (a < 0 ∧ iab a = -a) := by unfold iab; split <;> omega
theorem c27 {M : zM} {a : Int} {R : Option zV → zM → Prop} (ha : zr a) (h : R (some (zI (iab a))) M) : zF 27 [zI a] M R := by
  refine g27_0 ⟨ha, fun c => ⟨rfl, ?_⟩, fun c => ⟨rfl, ?_⟩⟩
  · rw [iab, if_pos c] at h; exact h
  · rw [iab, if_neg c] at h; exact h
theorem c59 {M : zM} {a : Int} {R : Option zV → zM → Prop} (ha : zr a) (h : R (some (zI (iab a))) M) : zF 59 [zI a] M R := by
  refine g59_0 ⟨ha, fun c => ⟨rfl, ?_⟩, fun c => ⟨rfl, ?_⟩⟩
  · rw [iab, if_pos c] at h; exact h
  · rw [iab, if_neg c] at h; exact h
theorem c58 {M : zM} {a : Int} {R : Option zV → zM → Prop} (ha : zr a) (h : R (some (zI (z_chr a))) M) : zF 58 [zI a] M R := by
  refine g58_0 ⟨ha, fun c => ⟨by omega, fun c2 => ⟨rfl, ?_⟩, fun c2 => ⟨rfl, ?_⟩⟩, fun c => ⟨rfl, ?_⟩⟩
  · rw [z_chr, if_neg c, if_neg c2] at h; exact h
  · rw [z_chr, if_neg c, if_pos c2] at h; exact h
  · rw [z_chr, if_pos c] at h; exact h
abbrev posA (a : Nat) (t o : Int) : Prop := ((a = 2 → -99999 ≤ t ∧ t ≤ 99999) ∧ (¬ a = 2 → 0 ≤ t ∧ t ≤ 999)) ∧ -500 ≤ t - o ∧ t - o ≤ 500
abbrev rB (x : Int) : Prop := -2000000 ≤ x ∧ x ≤ 2000000
theorem c28_a0 {M : zM} {u2 u3 u4 : Option zV} {cl : Bool} {R : Option zV → zM → Prop} (ht : rB (M.1 17 0 0)) (ho : rB (M.1 15 0 0)) (h0 : ¬ posA 0 (M.1 17 0 0) (M.1 15 0 0) → R (some (zI 0)) M)
    (h : posA 0 (M.1 17 0 0) (M.1 15 0 0) → ∀ (u2 u3 u4 : Option zV) (cl : Bool), zT 28 (2, [some (zR 0 0), some (zI 1), u2, u3, u4], [], M, cl) (zq R)) : zT 28 (2, [some (zR 0 0), some (zI 0), u2, u3, u4], [], M, cl) (zq R) := by
  have ha := iab_r (M.1 17 0 0 - M.1 15 0 0)
  refine g28_2a0 (c27 (by omega) ⟨_, rfl, fun _ => ⟨by omega, fun e => ⟨rfl, h0 fun q => ?_⟩, fun e => ⟨by omega, fun e2 => ⟨rfl, h0 fun q => ?_⟩, fun e2 => ⟨by omega, fun e3 => h ?_ _ _ _ _, fun e3 => ⟨rfl, h0 fun q => ?_⟩⟩⟩⟩⟩) <;> (unfold posA at *; omega)
theorem c28_a1 {M : zM} {u2 u3 u4 : Option zV} {cl : Bool} {R : Option zV → zM → Prop} (ht : rB (M.1 17 0 1)) (ho : rB (M.1 15 0 1)) (h0 : ¬ posA 1 (M.1 17 0 1) (M.1 15 0 1) → R (some (zI 0)) M)
    (h : posA 1 (M.1 17 0 1) (M.1 15 0 1) → ∀ (u2 u3 u4 : Option zV) (cl : Bool), zT 28 (2, [some (zR 0 0), some (zI 2), u2, u3, u4], [], M, cl) (zq R)) : zT 28 (2, [some (zR 0 0), some (zI 1), u2, u3, u4], [], M, cl) (zq R) := by
  have ha := iab_r (M.1 17 0 1 - M.1 15 0 1)
  refine g28_2a1 (c27 (by omega) ⟨_, rfl, fun _ => ⟨by omega, fun e => ⟨rfl, h0 fun q => ?_⟩, fun e => ⟨by omega, fun e2 => ⟨rfl, h0 fun q => ?_⟩, fun e2 => ⟨by omega, fun e3 => h ?_ _ _ _ _, fun e3 => ⟨rfl, h0 fun q => ?_⟩⟩⟩⟩⟩) <;> (unfold posA at *; omega)
theorem c28_a2 {M : zM} {u2 u3 u4 : Option zV} {cl : Bool} {R : Option zV → zM → Prop} (ht : rB (M.1 17 0 2)) (ho : rB (M.1 15 0 2)) (h0 : ¬ posA 2 (M.1 17 0 2) (M.1 15 0 2) → R (some (zI 0)) M)
    (h : posA 2 (M.1 17 0 2) (M.1 15 0 2) → ∀ (u2 u3 u4 : Option zV) (cl : Bool), zT 28 (2, [some (zR 0 0), some (zI 3), u2, u3, u4], [], M, cl) (zq R)) : zT 28 (2, [some (zR 0 0), some (zI 2), u2, u3, u4], [], M, cl) (zq R) := by
  have ha := iab_r (M.1 17 0 2 - M.1 15 0 2)
  refine g28_2a2 (c27 (by omega) ⟨_, rfl, fun _ => ⟨by omega, fun e => ⟨rfl, h0 fun q => ?_⟩, fun e => ⟨by omega, fun e2 => ⟨rfl, h0 fun q => ?_⟩, fun e2 => ⟨by omega, fun e3 => h ?_ _ _ _ _, fun e3 => ⟨rfl, h0 fun q => ?_⟩⟩⟩⟩⟩) <;> (unfold posA at *; omega)
theorem c28 {M : zM} {R : Option zV → zM → Prop} (ht : ∀ a, a < 3 → rB (M.1 17 0 a)) (ho : ∀ a, a < 3 → rB (M.1 15 0 a))
    (h1 : (∀ a, a < 3 → posA a (M.1 17 0 a) (M.1 15 0 a)) → R (some (zI 1)) M) (h0 : ¬ (∀ a, a < 3 → posA a (M.1 17 0 a) (M.1 15 0 a)) → R (some (zI 0)) M) : zF 28 [zR 0 0] M R := by
  refine g28_0 (c28_a0 (ht 0 (by omega)) (ho 0 (by omega)) (fun q => h0 fun g => q (g 0 (by omega))) fun p0 _ _ _ _ => ?_)
  refine c28_a1 (ht 1 (by omega)) (ho 1 (by omega)) (fun q => h0 fun g => q (g 1 (by omega))) fun p1 _ _ _ _ => ?_
  refine c28_a2 (ht 2 (by omega)) (ho 2 (by omega)) (fun q => h0 fun g => q (g 2 (by omega))) fun p2 _ _ _ _ => ?_
  refine g28_2a3 ⟨rfl, h1 fun a ha => ?_⟩
  match a with
  | 0 => exact p0
  | 1 => exact p1
  | 2 => exact p2
  | a + 3 => omega
theorem c60_t0 {M : zM} {x1 t r2 : Int} {Q : zQ} (hx : x1 = 0 ∨ x1 = 1) (ht : rB t) (ho : rB (M.1 24 0 0))
    (h : ∀ (u3 : Option zV) (cl : Bool), zT 60 (4, [some (zR 18 0), some (zI (if ¬ x1 = 0 ∧ posA 0 t (M.1 24 0 0) then 1 else 0)), some (zI 1), u3], [], z_w M 25 0 0 t, cl) Q) :
    (zr x1) ∧ ((x1 = 0 → zT 60 (144, [some (zR 18 0), some (zI x1), some (zI 0), some (zI r2)], [zI 0], (z_w M 25 0 0 t), false) Q) ∧ (¬ (x1 = 0) → (zr t ∧ zr 0) ∧ ((t < 0 → zT 60 (144, [some (zR 18 0), some (zI x1), some (zI 0), some (zI r2)], [zI 0], (z_w M 25 0 0 t), false) Q) ∧ (¬ (t < 0) → (zr t ∧ zr 999) ∧ ((999 < t → zT 60 (144, [some (zR 18 0), some (zI x1), some (zI 0), some (zI r2)], [zI 0], (z_w M 25 0 0 t), false) Q) ∧ (¬ (999 < t) → zF 59 [zI (t - (M.1 24 0 0))] (z_w M 25 0 0 t) (fun v M5 => ∃ r5 : Int, v = some (zI r5) ∧ ∀ cl5 : Bool, (zr r5 ∧ zr 500) ∧ ((500 < r5 → zT 60 (144, [some (zR 18 0), some (zI x1), some (zI 0), some (zI r2)], [zI 0], M5, cl5) Q) ∧ (¬ (500 < r5) → zT 60 (144, [some (zR 18 0), some (zI x1), some (zI 0), some (zI r2)], [zI 1], M5, cl5) Q))))))))) := by
  have ha := iab_r (t - M.1 24 0 0)
  have no : ∀ cl : Bool, ¬ (¬ x1 = 0 ∧ posA 0 t (M.1 24 0 0)) → zT 60 (144, [some (zR 18 0), some (zI x1), some (zI 0), some (zI r2)], [zI 0], (z_w M 25 0 0 t), cl) Q := by
    intro cl hn
    have h1 := h (some (zI r2)) cl
    rw [if_neg hn] at h1
    exact g60_144a0 h1
  refine ⟨by omega, fun e => no _ fun q => q.1 e, fun e => ⟨by omega, fun e2 => no _ fun q => ?_, fun e2 => ⟨by omega, fun e3 => no _ fun q => ?_, fun e3 => c59 (by omega) ⟨_, rfl, fun cl5 => ⟨by omega, fun e4 => no _ fun q => ?_, fun e4 => g60_144a0 ?_⟩⟩⟩⟩⟩
  · have := q.2; unfold posA at this; omega
  · have := q.2; unfold posA at this; omega
  · have := q.2; unfold posA at this; omega
  · have h1 := h (some (zI r2)) cl5
    rw [if_pos ⟨e, by unfold posA; omega⟩] at h1
    exact h1
theorem c60_a0 {M : zM} {l v : Nat → Int} {W : Nat} {x1 : Int} {u3 : Option zV} {cl : Bool} {Q : zQ} (hT : mW M l v W) (hw : wds l v W) (h2 : 2 ≤ W) (hx : x1 = 0 ∨ x1 = 1) (ho : rA (M.1 24 0 0)) (hz : rA (M.1 22 0 0)) (hd : M.1 18 0 9 = 0 ∨ M.1 18 0 9 = 1)
    (h : ∀ (u3 : Option zV) (cl : Bool), zT 60 (4, [some (zR 18 0), some (zI (if ¬ x1 = 0 ∧ posA 0 (tgt l v W (M.1 18 0 9) (M.1 24 0 0) (M.1 22 0 0) 0) (M.1 24 0 0) then 1 else 0)), some (zI 1), u3], [], z_w M 25 0 0 (tgt l v W (M.1 18 0 9) (M.1 24 0 0) (M.1 22 0 0) 0), cl) Q) :
    zT 60 (4, [some (zR 18 0), some (zI x1), some (zI 0), u3], [], M, cl) Q := by
  have hr := z_chr_r 0
  have htd := tdOf_r (l := l) (c := z_chr 0) (d := 0) (a := -99999) (b := 99999) (k := W) (by omega) (fun i hi => (hw.2 i hi).2)
  have hn := nOf_r l (z_chr 0) W
  have h40 := hw.1
  refine g60_4a0 (c58 (by omega) ⟨_, rfl, fun _ => c56 hT hw (by omega) h2 ⟨_, rfl, fun _ => c58 (by omega) ⟨_, rfl, fun _ => c55 hT hw (by omega) h2 ⟨_, rfl, fun _ => ⟨by omega, fun e => ⟨by omega, fun e2 => ?_, fun e2 => ?_⟩, fun e => ?_⟩⟩⟩⟩⟩)
  · refine c60_t0 hx (by omega) (by omega) ?_
    rw [tgt_z e e2] at h
    rw [Int.add_comm]; exact h
  · refine c60_t0 hx (by omega) (by omega) ?_
    rw [tgt_n e e2] at h
    rw [Int.add_comm]; exact h
  · refine c60_t0 hx (by omega) (by omega) ?_
    rw [tgt_0 e] at h
    exact h
theorem c60_t1 {M : zM} {x1 t r2 : Int} {Q : zQ} (hx : x1 = 0 ∨ x1 = 1) (ht : rB t) (ho : rB (M.1 24 0 1))
    (h : ∀ (u3 : Option zV) (cl : Bool), zT 60 (4, [some (zR 18 0), some (zI (if ¬ x1 = 0 ∧ posA 1 t (M.1 24 0 1) then 1 else 0)), some (zI 2), u3], [], z_w M 25 0 1 t, cl) Q) :
    (zr x1) ∧ ((x1 = 0 → zT 60 (144, [some (zR 18 0), some (zI x1), some (zI 1), some (zI r2)], [zI 0], (z_w M 25 0 1 t), false) Q) ∧ (¬ (x1 = 0) → (zr t ∧ zr 0) ∧ ((t < 0 → zT 60 (144, [some (zR 18 0), some (zI x1), some (zI 1), some (zI r2)], [zI 0], (z_w M 25 0 1 t), false) Q) ∧ (¬ (t < 0) → (zr t ∧ zr 999) ∧ ((999 < t → zT 60 (144, [some (zR 18 0), some (zI x1), some (zI 1), some (zI r2)], [zI 0], (z_w M 25 0 1 t), false) Q) ∧ (¬ (999 < t) → zF 59 [zI (t - (M.1 24 0 1))] (z_w M 25 0 1 t) (fun v M5 => ∃ r5 : Int, v = some (zI r5) ∧ ∀ cl5 : Bool, (zr r5 ∧ zr 500) ∧ ((500 < r5 → zT 60 (144, [some (zR 18 0), some (zI x1), some (zI 1), some (zI r2)], [zI 0], M5, cl5) Q) ∧ (¬ (500 < r5) → zT 60 (144, [some (zR 18 0), some (zI x1), some (zI 1), some (zI r2)], [zI 1], M5, cl5) Q))))))))) := by
  have ha := iab_r (t - M.1 24 0 1)
  have no : ∀ cl : Bool, ¬ (¬ x1 = 0 ∧ posA 1 t (M.1 24 0 1)) → zT 60 (144, [some (zR 18 0), some (zI x1), some (zI 1), some (zI r2)], [zI 0], (z_w M 25 0 1 t), cl) Q := by
    intro cl hn
    have h1 := h (some (zI r2)) cl
    rw [if_neg hn] at h1
    exact g60_144a1 h1
  refine ⟨by omega, fun e => no _ fun q => q.1 e, fun e => ⟨by omega, fun e2 => no _ fun q => ?_, fun e2 => ⟨by omega, fun e3 => no _ fun q => ?_, fun e3 => c59 (by omega) ⟨_, rfl, fun cl5 => ⟨by omega, fun e4 => no _ fun q => ?_, fun e4 => g60_144a1 ?_⟩⟩⟩⟩⟩
  · have := q.2; unfold posA at this; omega
  · have := q.2; unfold posA at this; omega
  · have := q.2; unfold posA at this; omega
  · have h1 := h (some (zI r2)) cl5
    rw [if_pos ⟨e, by unfold posA; omega⟩] at h1
    exact h1
theorem c60_a1 {M : zM} {l v : Nat → Int} {W : Nat} {x1 : Int} {u3 : Option zV} {cl : Bool} {Q : zQ} (hT : mW M l v W) (hw : wds l v W) (h2 : 2 ≤ W) (hx : x1 = 0 ∨ x1 = 1) (ho : rA (M.1 24 0 1)) (hz : rA (M.1 22 0 1)) (hd : M.1 18 0 9 = 0 ∨ M.1 18 0 9 = 1)
    (h : ∀ (u3 : Option zV) (cl : Bool), zT 60 (4, [some (zR 18 0), some (zI (if ¬ x1 = 0 ∧ posA 1 (tgt l v W (M.1 18 0 9) (M.1 24 0 1) (M.1 22 0 1) 1) (M.1 24 0 1) then 1 else 0)), some (zI 2), u3], [], z_w M 25 0 1 (tgt l v W (M.1 18 0 9) (M.1 24 0 1) (M.1 22 0 1) 1), cl) Q) :
    zT 60 (4, [some (zR 18 0), some (zI x1), some (zI 1), u3], [], M, cl) Q := by
  have hr := z_chr_r 1
  have htd := tdOf_r (l := l) (c := z_chr 1) (d := 0) (a := -99999) (b := 99999) (k := W) (by omega) (fun i hi => (hw.2 i hi).2)
  have hn := nOf_r l (z_chr 1) W
  have h40 := hw.1
  refine g60_4a1 (c58 (by omega) ⟨_, rfl, fun _ => c56 hT hw (by omega) h2 ⟨_, rfl, fun _ => c58 (by omega) ⟨_, rfl, fun _ => c55 hT hw (by omega) h2 ⟨_, rfl, fun _ => ⟨by omega, fun e => ⟨by omega, fun e2 => ?_, fun e2 => ?_⟩, fun e => ?_⟩⟩⟩⟩⟩)
  · refine c60_t1 hx (by omega) (by omega) ?_
    rw [tgt_z e e2] at h
    rw [Int.add_comm]; exact h
  · refine c60_t1 hx (by omega) (by omega) ?_
    rw [tgt_n e e2] at h
    rw [Int.add_comm]; exact h
  · refine c60_t1 hx (by omega) (by omega) ?_
    rw [tgt_0 e] at h
    exact h
theorem c60_t2 {M : zM} {x1 t r2 : Int} {Q : zQ} (hx : x1 = 0 ∨ x1 = 1) (ht : rB t) (ho : rB (M.1 24 0 2))
    (h : ∀ (u3 : Option zV) (cl : Bool), zT 60 (4, [some (zR 18 0), some (zI (if ¬ x1 = 0 ∧ posA 2 t (M.1 24 0 2) then 1 else 0)), some (zI 3), u3], [], z_w M 25 0 2 t, cl) Q) :
    (zr x1) ∧ ((x1 = 0 → zT 60 (144, [some (zR 18 0), some (zI x1), some (zI 2), some (zI r2)], [zI 0], (z_w M 25 0 2 t), false) Q) ∧ (¬ (x1 = 0) → (zr t ∧ zr (-99999)) ∧ ((t < (-99999) → zT 60 (144, [some (zR 18 0), some (zI x1), some (zI 2), some (zI r2)], [zI 0], (z_w M 25 0 2 t), false) Q) ∧ (¬ (t < (-99999)) → (zr t ∧ zr 99999) ∧ ((99999 < t → zT 60 (144, [some (zR 18 0), some (zI x1), some (zI 2), some (zI r2)], [zI 0], (z_w M 25 0 2 t), false) Q) ∧ (¬ (99999 < t) → zF 59 [zI (t - (M.1 24 0 2))] (z_w M 25 0 2 t) (fun v M5 => ∃ r5 : Int, v = some (zI r5) ∧ ∀ cl5 : Bool, (zr r5 ∧ zr 500) ∧ ((500 < r5 → zT 60 (144, [some (zR 18 0), some (zI x1), some (zI 2), some (zI r2)], [zI 0], M5, cl5) Q) ∧ (¬ (500 < r5) → zT 60 (144, [some (zR 18 0), some (zI x1), some (zI 2), some (zI r2)], [zI 1], M5, cl5) Q))))))))) := by
  have ha := iab_r (t - M.1 24 0 2)
  have no : ∀ cl : Bool, ¬ (¬ x1 = 0 ∧ posA 2 t (M.1 24 0 2)) → zT 60 (144, [some (zR 18 0), some (zI x1), some (zI 2), some (zI r2)], [zI 0], (z_w M 25 0 2 t), cl) Q := by
    intro cl hn
    have h1 := h (some (zI r2)) cl
    rw [if_neg hn] at h1
    exact g60_144a2 h1
  refine ⟨by omega, fun e => no _ fun q => q.1 e, fun e => ⟨by omega, fun e2 => no _ fun q => ?_, fun e2 => ⟨by omega, fun e3 => no _ fun q => ?_, fun e3 => c59 (by omega) ⟨_, rfl, fun cl5 => ⟨by omega, fun e4 => no _ fun q => ?_, fun e4 => g60_144a2 ?_⟩⟩⟩⟩⟩
  · have := q.2; unfold posA at this; omega
  · have := q.2; unfold posA at this; omega
  · have := q.2; unfold posA at this; omega
  · have h1 := h (some (zI r2)) cl5
    rw [if_pos ⟨e, by unfold posA; omega⟩] at h1
    exact h1
theorem c60_a2 {M : zM} {l v : Nat → Int} {W : Nat} {x1 : Int} {u3 : Option zV} {cl : Bool} {Q : zQ} (hT : mW M l v W) (hw : wds l v W) (h2 : 2 ≤ W) (hx : x1 = 0 ∨ x1 = 1) (ho : rA (M.1 24 0 2)) (hz : rA (M.1 22 0 2)) (hd : M.1 18 0 9 = 0 ∨ M.1 18 0 9 = 1)
    (h : ∀ (u3 : Option zV) (cl : Bool), zT 60 (4, [some (zR 18 0), some (zI (if ¬ x1 = 0 ∧ posA 2 (tgt l v W (M.1 18 0 9) (M.1 24 0 2) (M.1 22 0 2) 2) (M.1 24 0 2) then 1 else 0)), some (zI 3), u3], [], z_w M 25 0 2 (tgt l v W (M.1 18 0 9) (M.1 24 0 2) (M.1 22 0 2) 2), cl) Q) :
    zT 60 (4, [some (zR 18 0), some (zI x1), some (zI 2), u3], [], M, cl) Q := by
  have hr := z_chr_r 2
  have htd := tdOf_r (l := l) (c := z_chr 2) (d := 0) (a := -99999) (b := 99999) (k := W) (by omega) (fun i hi => (hw.2 i hi).2)
  have hn := nOf_r l (z_chr 2) W
  have h40 := hw.1
  refine g60_4a2 (c58 (by omega) ⟨_, rfl, fun _ => c56 hT hw (by omega) h2 ⟨_, rfl, fun _ => c58 (by omega) ⟨_, rfl, fun _ => c55 hT hw (by omega) h2 ⟨_, rfl, fun _ => ⟨by omega, fun e => ⟨by omega, fun e2 => ?_, fun e2 => ?_⟩, fun e => ?_⟩⟩⟩⟩⟩)
  · refine c60_t2 hx (by omega) (by omega) ?_
    rw [tgt_z e e2] at h
    rw [Int.add_comm]; exact h
  · refine c60_t2 hx (by omega) (by omega) ?_
    rw [tgt_n e e2] at h
    rw [Int.add_comm]; exact h
  · refine c60_t2 hx (by omega) (by omega) ?_
    rw [tgt_0 e] at h
    exact h
def mtg (M : zM) (l v : Nat → Int) (W : Nat) (a : Nat) : Int := tgt l v W (M.1 18 0 9) (M.1 24 0 a) (M.1 22 0 a) a
theorem c60 {M : zM} {l v : Nat → Int} {W : Nat} {R : Option zV → zM → Prop} (hT : mW M l v W) (hw : wds l v W) (h2 : 2 ≤ W) (ho : ∀ a, a < 3 → rA (M.1 24 0 a)) (hz : ∀ a, a < 3 → rA (M.1 22 0 a)) (hd : M.1 18 0 9 = 0 ∨ M.1 18 0 9 = 1)
    (h1 : (∀ a, a < 3 → posA a (mtg M l v W a) (M.1 24 0 a)) → R (some (zI 1)) (z_w (z_w (z_w M 25 0 0 (mtg M l v W 0)) 25 0 1 (mtg M l v W 1)) 25 0 2 (mtg M l v W 2)))
    (h0 : ¬ (∀ a, a < 3 → posA a (mtg M l v W a) (M.1 24 0 a)) → R (some (zI 0)) (z_w (z_w (z_w M 25 0 0 (mtg M l v W 0)) 25 0 1 (mtg M l v W 1)) 25 0 2 (mtg M l v W 2))) : zF 60 [zR 18 0] M R := by
  refine g60_0 (c60_a0 hT hw h2 (Or.inr rfl) (ho 0 (by omega)) (hz 0 (by omega)) hd fun _ _ => ?_)
  refine c60_a1 (M := z_w M 25 0 0 (mtg M l v W 0)) hT hw h2 (by split <;> omega) (ho 1 (by omega)) (hz 1 (by omega)) hd fun _ _ => ?_
  refine c60_a2 (M := z_w (z_w M 25 0 0 (mtg M l v W 0)) 25 0 1 (mtg M l v W 1)) hT hw h2 (by split <;> omega) (ho 2 (by omega)) (hz 2 (by omega)) hd fun _ _ => ?_
  refine g60_4a3 ⟨by split <;> omega, rfl, ?_⟩
  by_cases p0 : posA 0 (mtg M l v W 0) (M.1 24 0 0)
  · by_cases p1 : posA 1 (mtg M l v W 1) (M.1 24 0 1)
    · by_cases p2 : posA 2 (mtg M l v W 2) (M.1 24 0 2)
      · rw [if_pos ⟨by rw [if_pos ⟨by rw [if_pos ⟨by omega, p0⟩]; omega, p1⟩]; omega, p2⟩]
        refine h1 fun a ha => ?_
        match a with
        | 0 => exact p0
        | 1 => exact p1
        | 2 => exact p2
        | a + 3 => omega
      · rw [if_neg (fun q => p2 q.2)]; exact h0 fun g => p2 (g 2 (by omega))
    · rw [if_neg (fun q => q.1 (if_neg (fun q => p1 q.2)))]; exact h0 fun g => p1 (g 1 (by omega))
  · rw [if_neg (fun q => q.1 (if_neg (fun q => q.1 (if_neg (fun q => p0 q.2)))))]; exact h0 fun g => p0 (g 0 (by omega))
theorem c45_a0 {M : zM} {l v : Nat → Int} {W : Nat} {u2 : Option zV} {cl : Bool} {Q : zQ} (hm : cmdT M l v W)
    (h : ∀ (u2 : Option zV) (cl : Bool), zT 45 (2, [some (zR 0 0), some (zI 1), u2], [], z_w M 16 0 0 (if nOf l (z_chr 0) W = 0 then M.1 16 0 0 else M.1 15 0 0 - tdOf l v (z_chr 0) 0 W), cl) Q) : zT 45 (2, [some (zR 0 0), some (zI 0), u2], [], M, cl) Q := by
  have hr := z_chr_r 0
  refine g45_2a0 (c20 hm hr ⟨_, rfl, fun cl1 => ⟨by split <;> omega, fun e => ?_, fun e => ?_⟩⟩)
  · have hn : nOf l (z_chr 0) W = 0 := by
      by_cases q : nOf l (z_chr 0) W = 0
      · exact q
      · rw [if_neg q] at e; omega
    have h1 := h (some (zI (z_chr 0))) cl1
    rw [if_pos hn, z_w_id] at h1; exact h1
  · have hn : ¬ nOf l (z_chr 0) W = 0 := by
      intro q; rw [if_pos q] at e; exact absurd rfl e
    have ev := cmdT_v hm hr hn
    refine c22 hr ⟨_, rfl, fun cl2 => ?_⟩
    rw [ev]
    have h1 := h (some (zI (z_chr 0))) false
    rw [if_neg hn] at h1; exact h1
theorem c45_a1 {M : zM} {l v : Nat → Int} {W : Nat} {u2 : Option zV} {cl : Bool} {Q : zQ} (hm : cmdT M l v W)
    (h : ∀ (u2 : Option zV) (cl : Bool), zT 45 (2, [some (zR 0 0), some (zI 2), u2], [], z_w M 16 0 1 (if nOf l (z_chr 1) W = 0 then M.1 16 0 1 else M.1 15 0 1 - tdOf l v (z_chr 1) 0 W), cl) Q) : zT 45 (2, [some (zR 0 0), some (zI 1), u2], [], M, cl) Q := by
  have hr := z_chr_r 1
  refine g45_2a1 (c20 hm hr ⟨_, rfl, fun cl1 => ⟨by split <;> omega, fun e => ?_, fun e => ?_⟩⟩)
  · have hn : nOf l (z_chr 1) W = 0 := by
      by_cases q : nOf l (z_chr 1) W = 0
      · exact q
      · rw [if_neg q] at e; omega
    have h1 := h (some (zI (z_chr 1))) cl1
    rw [if_pos hn, z_w_id] at h1; exact h1
  · have hn : ¬ nOf l (z_chr 1) W = 0 := by
      intro q; rw [if_pos q] at e; exact absurd rfl e
    have ev := cmdT_v hm hr hn
    refine c22 hr ⟨_, rfl, fun cl2 => ?_⟩
    rw [ev]
    have h1 := h (some (zI (z_chr 1))) false
    rw [if_neg hn] at h1; exact h1
theorem c45_a2 {M : zM} {l v : Nat → Int} {W : Nat} {u2 : Option zV} {cl : Bool} {Q : zQ} (hm : cmdT M l v W)
    (h : ∀ (u2 : Option zV) (cl : Bool), zT 45 (2, [some (zR 0 0), some (zI 3), u2], [], z_w M 16 0 2 (if nOf l (z_chr 2) W = 0 then M.1 16 0 2 else M.1 15 0 2 - tdOf l v (z_chr 2) 0 W), cl) Q) : zT 45 (2, [some (zR 0 0), some (zI 2), u2], [], M, cl) Q := by
  have hr := z_chr_r 2
  refine g45_2a2 (c20 hm hr ⟨_, rfl, fun cl1 => ⟨by split <;> omega, fun e => ?_, fun e => ?_⟩⟩)
  · have hn : nOf l (z_chr 2) W = 0 := by
      by_cases q : nOf l (z_chr 2) W = 0
      · exact q
      · rw [if_neg q] at e; omega
    have h1 := h (some (zI (z_chr 2))) cl1
    rw [if_pos hn, z_w_id] at h1; exact h1
  · have hn : ¬ nOf l (z_chr 2) W = 0 := by
      intro q; rw [if_pos q] at e; exact absurd rfl e
    have ev := cmdT_v hm hr hn
    refine c22 hr ⟨_, rfl, fun cl2 => ?_⟩
    rw [ev]
    have h1 := h (some (zI (z_chr 2))) false
    rw [if_neg hn] at h1; exact h1
def ogn (l v : Nat → Int) (W : Nat) (o z : Int) (a : Int) : Int := if nOf l (z_chr a) W = 0 then z else o - tdOf l v (z_chr a) 0 W
theorem c45 {M : zM} {l v : Nat → Int} {W : Nat} {R : Option zV → zM → Prop} (hm : cmdT M l v W)
    (h : R none (z_w (z_w (z_w M 16 0 0 (ogn l v W (M.1 15 0 0) (M.1 16 0 0) 0)) 16 0 1 (ogn l v W (M.1 15 0 1) (M.1 16 0 1) 1)) 16 0 2 (ogn l v W (M.1 15 0 2) (M.1 16 0 2) 2))) : zF 45 [zR 0 0] M R := by
  refine g45_0 (c45_a0 hm fun _ _ => ?_)
  refine c45_a1 (M := z_w M 16 0 0 (ogn l v W (M.1 15 0 0) (M.1 16 0 0) 0)) hm fun _ _ => ?_
  refine c45_a2 (M := z_w (z_w M 16 0 0 (ogn l v W (M.1 15 0 0) (M.1 16 0 0) 0)) 16 0 1 (ogn l v W (M.1 15 0 1) (M.1 16 0 1) 1)) hm fun _ _ => ?_
  exact g45_2a3 ⟨rfl, h⟩
