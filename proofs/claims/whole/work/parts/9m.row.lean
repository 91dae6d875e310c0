-- The row, abstractly: D the steps, L the lengths, F the speeds of its blocks (speed 0: a dwell). (own work)
def qC (D : Nat → Nat → Int) (F : Nat → Int) (i : Nat) : Nat := (imin (F i * F i) (jn (D (i - 1)) (D i) (F (i - 1) * F (i - 1)) (F i * F i))).toNat
def qD (a : Int) (L : Nat → Int) (i : Nat) : Nat := (2 * a * L i).toNat
abbrev okB1 (D : Nat → Int) (L F : Int) : Prop := (0 ≤ F ∧ F ≤ 1000) ∧ b500 D ∧ (F = 0 → (∀ a, a < 3 → D a = 0) ∧ 1 ≤ L ∧ L ≤ 200) ∧ (1 ≤ F → L = len3 D ∧ 1 ≤ L)
abbrev okB (n : Nat) (D : Nat → Nat → Int) (L F : Nat → Int) : Prop := ∀ i, i < n → okB1 (D i) (L i) (F i)
theorem okB_L {D : Nat → Int} {L F : Int} (h : okB1 D L F) : 1 ≤ L ∧ L ≤ 500 := by
  obtain ⟨h1, h2, h3, h4⟩ := h
  have hl := (len3_r h2).2.2
  by_cases e : F = 0
  · have := h3 e; omega
  · have := h4 (by omega); omega
theorem qD_e {a : Int} {D : Nat → Nat → Int} {L F : Nat → Int} {i : Nat} (ha : 1 ≤ a ∧ a ≤ 1000) (h : okB1 (D i) (L i) (F i)) : (qD a L i : Int) = 2 * a * L i ∧ qD a L i ≤ 1000000 := by
  have hl := okB_L h
  have hb := mul_2ak (a := a) (k := L i) (by omega) (by omega)
  unfold qD; omega
theorem qC_e {D : Nat → Nat → Int} {F L : Nat → Int} {i : Nat} (h0 : okB1 (D (i - 1)) (L (i - 1)) (F (i - 1))) (h1 : okB1 (D i) (L i) (F i)) : (qC D F i : Int) = imin (F i * F i) (jn (D (i - 1)) (D i) (F (i - 1) * F (i - 1)) (F i * F i)) ∧ qC D F i ≤ 1000000 := by
  have q0 := sq_b h0.1
  have q1 := sq_b h1.1
  have hj := jn_r h0.2.1 h1.2.1 q0 q1
  have hm := imin_r (F i * F i) (jn (D (i - 1)) (D i) (F (i - 1) * F (i - 1)) (F i * F i))
  unfold qC; omega
theorem dot_congr {x y x' y' : Nat → Int} (hx : ∀ a, a < 3 → x a = x' a) (hy : ∀ a, a < 3 → y a = y' a) : dot x y = dot x' y' := by
  unfold dot
  rw [hx 0 (by omega), hx 1 (by omega), hx 2 (by omega), hy 0 (by omega), hy 1 (by omega), hy 2 (by omega)]
theorem jn_congr {x y x' y' : Nat → Int} {s t : Int} (hx : ∀ a, a < 3 → x a = x' a) (hy : ∀ a, a < 3 → y a = y' a) : jn x y s t = jn x' y' s t := by
  unfold jn
  rw [dot_congr hx hy, dot_congr hx hx, dot_congr hy hy]
theorem len3_congr {x x' : Nat → Int} (hx : ∀ a, a < 3 → x a = x' a) : len3 x = len3 x' := by
  unfold len3 len2 len1
  rw [hx 0 (by omega), hx 1 (by omega), hx 2 (by omega)]
-- the class's row
def cRow (M : zM) (n : Nat) (D : Nat → Nat → Int) (L F : Nat → Int) : Prop := (0 ≤ M.1 8 0 2 ∧ M.1 8 0 2 ≤ 7) ∧ M.1 8 0 3 = (n : Int) ∧ n ≤ 8 ∧
  ∀ i, i < n → (∀ a, a < 3 → M.1 11 (bN M i) a = D i a) ∧ M.1 10 (bN M i) 1 = L i ∧ M.1 10 (bN M i) 2 = F i * F i
theorem rwOk_of {M : zM} {n : Nat} {D : Nat → Nat → Int} {L F : Nat → Int} {a : Int} (st : Nat) (hr : cRow M n D L F) (hB : okB n D L F) (ha : M.1 8 0 1 = a) (ha1 : 1 ≤ a ∧ a ≤ 1000) : rwOk M (qC D F) (qD a L) st n := by
  obtain ⟨h1, h2, h3, h4⟩ := hr
  refine ⟨h1, h2, h3, fun i hi => ?_, fun i i1 i2 => ?_⟩
  · have hb := hB i hi
    have h := h4 i hi
    have hd := qD_e ha1 hb
    rw [h.2.1, h.2.2, ha]
    refine ⟨fun q hq => ?_, sq_b hb.1, hd.1, hd.2⟩
    rw [h.1 q hq]; exact hb.2.1 q hq
  · have hb := hB i i2
    have hb0 := hB (i - 1) (by omega)
    have h := h4 i i2
    have h0 := h4 (i - 1) (by omega)
    have hc := qC_e hb0 hb
    rw [h.2.2, h0.2.2, jn_congr h0.1 h.1]
    exact hc
def cEnt (M : zM) (n : Nat) (c d : Nat → Nat) (st g : Nat) : Prop := ∀ i, st ≤ i → i < n → M.1 10 (bN M i) 3 = (pE c d n st g i : Int)
theorem c38w0 {M : zM} {n : Nat} {D : Nat → Nat → Int} {L F : Nat → Int} {a : Int} {R : Option zV → zM → Prop} (hr : cRow M n D L F) (hB : okB n D L F) (ha : M.1 8 0 1 = a) (ha1 : 1 ≤ a ∧ a ≤ 1000) (hw : M.1 8 0 4 = 0)
    (h : ∀ M', zfr p38 zno M M' → cEnt M' n (qC D F) (qD a L) 0 0 → R none M') : zF 38 [zR 8 0] M R := by
  refine c38 (rwOk_of 0 hr hB ha ha1) (Nat.zero_le _) (Or.inl ⟨hw, rfl, rfl⟩) (fun hn => h M (zfr.refl _ _ _) (fun i _ i2 => by omega)) (fun hn M' hf he hq ho => h M' hf (fun i _ i2 => ?_))
  rw [bN_fr hf]
  by_cases e : i = 0
  · subst e; rw [he, pE_st]
  · rw [hq i (by omega) i2, pE_in (by omega) i2]
theorem c38w1 {M : zM} {n : Nat} {D : Nat → Nat → Int} {L F : Nat → Int} {a : Int} {x : Nat} {R : Option zV → zM → Prop} (hr : cRow M n D L F) (hB : okB n D L F) (ha : M.1 8 0 1 = a) (ha1 : 1 ≤ a ∧ a ≤ 1000) (hw : M.1 8 0 4 = 1) (hx : M.1 10 (bN M 0) 4 = (x : Int)) (hxb : x ≤ 1000000)
    (h : ∀ M', zfr p38 zno M M' → M'.1 10 (bN M 0) 3 = M.1 10 (bN M 0) 3 → cEnt M' n (qC D F) (qD a L) 1 x → R none M') : zF 38 [zR 8 0] M R := by
  have h8 := hr.2.2.1
  refine c38 (rwOk_of 1 hr hB ha ha1) hxb (Or.inr ⟨hw, rfl, hx.symm⟩) (fun hn => h M (zfr.refl _ _ _) rfl (fun i i1 i2 => by omega)) (fun hn M' hf he hq ho => h M' hf (ho _ (fun q q1 q2 hb => ?_)) (fun i i1 i2 => ?_))
  · have := bN_inj hr.1 (by omega) (by omega) hb; omega
  rw [bN_fr hf]
  by_cases e : i = 1
  · subst e; rw [he, pE_st]
  · rw [hq i (by omega) i2, pE_in (by omega) i2]
-- the reference's row
def mRow (M : zM) (n : Nat) (D : Nat → Nat → Int) (L F : Nat → Int) : Prop := M.1 18 0 15 = (n : Int) ∧ n ≤ 8 ∧ (∀ j, j < 27 → -500 ≤ M.1 26 0 j ∧ M.1 26 0 j ≤ 500) ∧
  ∀ i, i < n → mF M i = F i ∧ (F i = 0 → M.1 28 0 i = L i) ∧ (1 ≤ F i → ∀ a, a < 3 → mB M i a = D i a)
theorem okM_of {M : zM} {n : Nat} {D : Nat → Nat → Int} {L F : Nat → Int} (hr : mRow M n D L F) (hB : okB n D L F) {i : Nat} (hi : i < n) : okM M i := by
  obtain ⟨h1, h2, h3, h4⟩ := hr
  have h := h4 i hi
  refine ⟨by rw [h.1]; exact (hB i hi).1, fun q hq => h3 (3 * i + q) (by omega)⟩
theorem mLn_of {M : zM} {n : Nat} {D : Nat → Nat → Int} {L F : Nat → Int} (hr : mRow M n D L F) (hB : okB n D L F) {i : Nat} (hi : i < n) : mLn M i = if F i = 0 then 0 else L i := by
  obtain ⟨h1, h2, h3, h4⟩ := hr
  have h := h4 i hi
  have hb := hB i hi
  have hf := hb.1
  unfold mLn
  rw [h.1]
  by_cases e : F i = 0
  · rw [if_pos e, if_pos (by omega)]
  · rw [if_neg e, if_neg (by omega), len3_congr (h.2.2 (by omega)), (hb.2.2.2 (by omega)).1]
theorem jn_z {x y : Nat → Int} {s t : Int} (h : (∀ a, a < 3 → x a = 0) ∨ (∀ a, a < 3 → y a = 0)) : jn x y s t = 0 := by
  have : dot x y = 0 := by
    unfold dot
    rcases h with h | h
    · rw [h 0 (by omega), h 1 (by omega), h 2 (by omega), Int.zero_mul, Int.zero_mul, Int.zero_mul]; rfl
    · rw [h 0 (by omega), h 1 (by omega), h 2 (by omega), Int.mul_zero, Int.mul_zero, Int.mul_zero]; rfl
  rw [jn, if_pos (by omega)]
theorem qC_z {n : Nat} {D : Nat → Nat → Int} {L F : Nat → Int} (hB : okB n D L F) {j : Nat} (h1 : 1 ≤ j) (h2 : j < n) (h : F j = 0 ∨ F (j - 1) = 0) : qC D F j = 0 := by
  have hb := hB j h2
  have hb0 := hB (j - 1) (by omega)
  have q1 := sq_b hb.1
  unfold qC
  rw [jn_z (by rcases h with h | h; exact Or.inr (hb.2.2.1 h).1; exact Or.inl (hb0.2.2.1 h).1)]
  have := imin_r (F j * F j) 0
  omega
theorem plOk_of {M : zM} {n : Nat} {D : Nat → Nat → Int} {L F : Nat → Int} {a : Int} {st g : Nat} (hr : mRow M n D L F) (hB : okB n D L F) (ha : M.1 18 0 0 = a) (ha1 : 1 ≤ a ∧ a ≤ 1000) (hg : g ≤ 1000000000) : plOk M (qC D F) (fun k => if F k = 0 then 0 else qD a L k) st g n := by
  have hr' := hr
  obtain ⟨h1, h2, h3, h4⟩ := hr'
  refine ⟨h1, h2, by rw [ha]; exact ha1, fun k hk => ⟨okM_of hr hB hk, ?_⟩, fun j j1 j2 => ?_, hg⟩
  · have hd := qD_e ha1 (hB k hk)
    rw [mLn_of hr hB hk, ha]
    dsimp only
    by_cases e : F k = 0
    · rw [if_pos e, if_pos e, Int.mul_zero]; exact ⟨rfl, by omega⟩
    · rw [if_neg e, if_neg e]; exact hd
  · have hb := hB j j2
    have hb0 := hB (j - 1) (by omega)
    have hc := qC_e hb0 hb
    refine ⟨?_, hc.2⟩
    unfold mCl
    have e1 := h4 j j2
    have e0 := h4 (j - 1) (by omega)
    rw [e1.1, e0.1]
    by_cases e : F j = 0 ∨ F (j - 1) = 0
    · rw [if_pos e, qC_z hB (by omega) j2 e]; rfl
    · have f1 := hb.1
      have f0 := hb0.1
      rw [if_neg e, hc.1, jn_congr (e0.2.2 (by omega)) (e1.2.2 (by omega))]
theorem c90p {M : zM} {n : Nat} {D : Nat → Nat → Int} {L F : Nat → Int} {a : Int} {st g i : Nat} {R : Option zV → zM → Prop} (hr : mRow M n D L F) (hB : okB n D L F) (ha : M.1 18 0 0 = a) (ha1 : 1 ≤ a ∧ a ≤ 1000) (hg : g ≤ 1000000000) (hi : st ≤ i) (hi2 : i ≤ 100) (hz : n ≤ i → st = i → g = 0)
    (h : R (some (zJ (pE (qC D F) (qD a L) n st g i : Nat))) M) : zF 90 [zR 18 0, zI i, zI st, zJ g] M R := by
  have hr' := hr
  obtain ⟨h1, h2, h3, h4⟩ := hr'
  by_cases e : n ≤ i
  · refine c90_end (by omega) (by omega) (by omega) ?_
    by_cases e2 : i = st
    · subst e2
      rw [pE_st, hz e rfl] at h; exact h
    · rw [pE_end (by omega) e] at h; exact h
  · by_cases e2 : i = st
    · subst e2
      rw [pE_st] at h
      exact c90_first (by omega) (by omega) (by omega) h
    · refine c90 (plOk_of (st := st) hr hB ha ha1 hg) ⟨by omega, by omega⟩ (fun v hv => ?_)
      have ev : v = pE (qC D F) (qD a L) n st g i := by
        apply nat_le_eq
        intro x
        rw [pE_le (by omega) (by omega), hv]
        refine (pm_pause (qC D F) (qD a L) _ (fun k => decide (F k = 0)) st g n i (by omega) (by omega) (fun k => ?_) (fun j j1 j2 hj => ?_) x).symm
        · by_cases e3 : F k = 0
          · simp [e3]
          · simp [e3]
        · refine qC_z hB (by omega) j2 ?_
          rcases hj with hj | hj
          · exact Or.inl (by simpa using hj)
          · exact Or.inr (by simpa using hj)
      rw [ev]; exact h
