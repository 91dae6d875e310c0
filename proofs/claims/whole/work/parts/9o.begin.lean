-- A block begins. (own work)
def bWt (a L0 F0 : Int) (e x : Nat) (k : Int) : Int := if F0 = 0 then L0 else dl (sSq (F0 * F0) e x a L0 k)
def bgn (a : Int) (g : Nat) : aS → aS
  | (n, (D, L, F), (_, _, _, _, _), r) => (n, (D, L, F), (1, g, pE (qC D F) (qD a L) n 0 g 1, 0, bWt a (L 0) (F 0) g (pE (qC D F) (qD a L) n 0 g 1) 1), r)
theorem dl_r {s : Int} (h : 0 ≤ s ∧ s ≤ 1000000) : 1 ≤ dl s ∧ dl s ≤ 1000 := by
  have hq := isq_r h
  unfold dl
  by_cases e : isq s < 1
  · rw [if_pos e]; omega
  · rw [if_neg e]
    have h1 : 0 ≤ 1000 / isq s := Int.ediv_nonneg (by omega) (by omega)
    have h2 : 1000 / isq s ≤ 1000 := Int.ediv_le_self _ (by omega)
    have := imax_r 1 (1000 / isq s)
    omega
theorem sSq_r {t e x a l k : Int} (ht : 0 ≤ t ∧ t ≤ 1000000) (he : 0 ≤ e) (hx : 0 ≤ x) (ha : 0 ≤ a ∧ a ≤ 1000) (hk : 1 ≤ k ∧ k ≤ l) (hl : l ≤ 500) : 0 ≤ sSq t e x a l k ∧ sSq t e x a l k ≤ 1000000 := by
  have b1 := mul_2ak ha (k := k) (by omega)
  have b2 := mul_2ak ha (k := l - k + 1) (by omega)
  have m1 := imin_r (e + 2 * a * k) (x + 2 * a * (l - k + 1))
  have m2 := imin_r t (imin (e + 2 * a * k) (x + 2 * a * (l - k + 1)))
  unfold sSq; omega
theorem bWt_r {a L0 F0 k : Int} {D0 : Nat → Int} {e x : Nat} (hb : okB1 D0 L0 F0) (ha : 1 ≤ a ∧ a ≤ 1000) (hk : 1 ≤ k ∧ k ≤ L0) : 1 ≤ bWt a L0 F0 e x k ∧ bWt a L0 F0 e x k ≤ 1000 := by
  have hl := okB_L hb
  unfold bWt
  by_cases c : F0 = 0
  · have := hb.2.2.1 c
    rw [if_pos c]; omega
  · rw [if_neg c]
    exact dl_r (sSq_r (sq_b hb.1) (by omega) (by omega) (by omega) hk hl.2)
theorem pE_1b {n : Nat} {D : Nat → Nat → Int} {L F : Nat → Int} {d : Nat → Nat} {g : Nat} (hB : okB n D L F) : pE (qC D F) d n 0 g 1 ≤ 1000000 := by
  by_cases e : 1 < n
  · have h1 := pE_c (c := qC D F) (d := d) (g := g) (show 0 < 1 by omega) e
    have h2 := (qC_e (hB 0 (by omega)) (hB 1 e)).2
    omega
  · rw [pE_end (by omega) (by omega)]; omega
theorem c31z {M : zM} {R : Option zV → zM → Prop} (hf : 0 ≤ M.1 8 0 2 ∧ M.1 8 0 2 ≤ 7) (h : R (some (zR 10 (bN M 0))) M) : zF 31 [zR 8 0, zI 0] M R := c31 hf (by omega) h
abbrev p71 : Nat → Nat → Prop := fun k s => (k = 8 ∧ (s = 4 ∨ s = 5 ∨ s = 6)) ∨ (k = 10 ∧ s = 4)
theorem sq_z {x : Int} (h : 0 ≤ x) (h0 : x * x = 0) : x = 0 := by
  rcases Int.mul_eq_zero.1 h0 with h | h <;> exact h
theorem c71 {M : zM} {n : Nat} {D : Nat → Nat → Int} {L F : Nat → Int} {a : Int} {g : Nat} {R : Option zV → zM → Prop} (hr : cRow M n D L F) (hB : okB n D L F) (ha : M.1 8 0 1 = a) (ha1 : 1 ≤ a ∧ a ≤ 1000) (hw : M.1 8 0 4 = 0) (hn : 1 ≤ n) (hg : g ≤ 1000000) (he : cEnt M n (qC D F) (qD a L) 0 g)
    (h : ∀ M', zfr p71 zno M M' → cRow M' n D L F → cWk M' n (qC D F) (qD a L) 1 g (pE (qC D F) (qD a L) n 0 g 1) 0 (bWt a (L 0) (F 0) g (pE (qC D F) (qD a L) n 0 g 1) 1) → R none M') : zF 71 [zR 8 0] M R := by
  have h8 := hr.2.2.1
  have hcnt := hr.2.1
  have hb0 := hB 0 (by omega)
  have hl0 := okB_L hb0
  have hr0 := hr.2.2.2 0 (by omega)
  have hq0 := sq_b hb0.1
  have hx1 := pE_1b (d := qD a L) (g := g) hB
  have e3 : M.1 10 (bN M 0) 3 = (g : Int) := by have := he 0 (by omega) (by omega); rw [pE_st] at this; exact this
  have ex : (if M.1 8 0 4 = 1 ∧ (0 : Nat) = 0 then M.1 10 (bN M 0) 4 else if 0 + 1 < n then M.1 10 (bN M (0 + 1)) 3 else 0) = (pE (qC D F) (qD a L) n 0 g 1 : Int) := by
    rw [if_neg (by omega)]
    by_cases e : 0 + 1 < n
    · rw [if_pos e]; exact he 1 (by omega) (by omega)
    · rw [if_neg e, pE_end (by omega) (by omega)]; rfl
  generalize hX : pE (qC D F) (qD a L) n 0 g 1 = X at *
  have done : ∀ (t : Int), t = bWt a (L 0) (F 0) g X 1 → R none (z_w (z_w (z_w (z_w M 10 (bN M 0) 4 X) 8 0 4 1) 8 0 5 0) 8 0 6 t) := by
    intro t ht
    refine h _ (((((zfr.refl _ _ _).w 10 _ 4 _ (Or.inr ⟨rfl, rfl⟩)).w 8 0 4 _ (Or.inl ⟨rfl, by simp⟩)).w 8 0 5 _ (Or.inl ⟨rfl, by simp⟩)).w 8 0 6 _ (Or.inl ⟨rfl, by simp⟩)) (cRow_eq (by simp [z_w_get]) (by simp [z_w_get]) (by simp [z_w_get]) (by simp [z_w_get]) (by simp [z_w_get]) hr) ⟨by simp [z_w_get], fun c => absurd c (by decide), fun _ => ⟨?_, ?_, ?_, by simp [z_w_get], by simp [z_w_get, ht]⟩⟩
    · have eb : bN (z_w (z_w (z_w (z_w M 10 (bN M 0) 4 X) 8 0 4 1) 8 0 5 0) 8 0 6 t) 0 = bN M 0 := by unfold bN bAt; simp [z_w_get]
      rw [eb, ← e3]; simp [z_w_get]
    · have eb : bN (z_w (z_w (z_w (z_w M 10 (bN M 0) 4 X) 8 0 4 1) 8 0 5 0) 8 0 6 t) 0 = bN M 0 := by unfold bN bAt; simp [z_w_get]
      rw [eb]; simp [z_w_get]
    · have h1 : cEnt M n (qC D F) (qD a L) 1 X := by
        intro i i1 i2
        rw [← hX, pE_next i1]; exact he i (by omega) i2
      exact cEnt_eq (by simp [z_w_get]) (fun i _ _ => by simp [z_w_get]) h1
  refine g71_0 ?_
  rw [hcnt]
  refine ⟨by omega, fun _ => c31z hr.1 ⟨_, rfl, fun _ => c67 (i := 0) hr.1 hcnt h8 (by omega) (Or.inl hw) ⟨_, rfl, fun _ => ?_⟩⟩, fun c => by omega⟩
  rw [ex]
  show zF 68 [zR 10 (bN M 0)] _ _
  have g2 : (z_w (z_w (z_w M 10 (bN M 0) 4 X) 8 0 4 1) 8 0 5 0).1 10 (bN M 0) 2 = F 0 * F 0 := by rw [← hr0.2.2]; simp [z_w_get]
  have g1 : (z_w (z_w (z_w M 10 (bN M 0) 4 X) 8 0 4 1) 8 0 5 0).1 10 (bN M 0) 1 = L 0 := by rw [← hr0.2.1]; simp [z_w_get]
  have g3 : (z_w (z_w (z_w M 10 (bN M 0) 4 X) 8 0 4 1) 8 0 5 0).1 10 (bN M 0) 3 = g := by rw [← e3]; simp [z_w_get]
  have g4 : (z_w (z_w (z_w M 10 (bN M 0) 4 X) 8 0 4 1) 8 0 5 0).1 10 (bN M 0) 4 = X := by simp [z_w_get]
  have ga : (z_w (z_w (z_w M 10 (bN M 0) 4 X) 8 0 4 1) 8 0 5 0).1 8 0 1 = a := by rw [← ha]; simp [z_w_get]
  refine c68 (by rw [g2]; omega) ⟨_, rfl, fun _ => ⟨by split <;> omega, fun c => ?_, fun c => ?_⟩⟩
  · rw [g2] at c
    have hF : ¬ F 0 = 0 := by
      intro hz
      rw [if_pos (by rw [hz]; rfl)] at c
      omega
    rw [ga]
    show zF 70 [zR 10 (bN M 0), zI 1, zI a] _ _
    refine c70 (by rw [g3]; omega) (by rw [g4]; omega) (by rw [g2]; omega) (by omega) (by rw [g1]; omega) (by rw [g1]; omega) ⟨_, rfl, fun _ => ⟨rfl, ?_⟩⟩
    rw [g1, g2, g3, g4]
    exact done _ (by unfold bWt; rw [if_neg hF])
  · rw [g2] at c
    have hF : F 0 = 0 := by
      by_cases hz : F 0 * F 0 = 0
      · exact sq_z hb0.1.1 hz
      · rw [if_neg hz] at c; exact absurd rfl c
    refine ⟨rfl, ?_⟩
    show R none (z_w _ 8 0 6 ((z_w (z_w (z_w M 10 (bN M 0) 4 X) 8 0 4 1) 8 0 5 0).1 10 (bN M 0) 1))
    rw [g1]
    exact done _ (by unfold bWt; rw [if_pos hF])
