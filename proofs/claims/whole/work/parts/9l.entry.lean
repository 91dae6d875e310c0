-- The plan as a function: the entries of the blocks. (own work)
def pE (c d : Nat → Nat) (n st g q : Nat) : Nat := if q = st then g else if q < n then pm_dn (fun q => pm_up c d st g (q - st)) d n (n - q) else 0
theorem pE_st (c d : Nat → Nat) (n st g : Nat) : pE c d n st g st = g := if_pos rfl
theorem pE_in {c d : Nat → Nat} {n st g q : Nat} (h1 : st < q) (h2 : q < n) : pE c d n st g q = pm_dn (fun q => pm_up c d st g (q - st)) d n (n - q) := by
  rw [pE, if_neg (by omega), if_pos h2]
theorem pE_end {c d : Nat → Nat} {n st g q : Nat} (h1 : st < q) (h2 : n ≤ q) : pE c d n st g q = 0 := by
  rw [pE, if_neg (by omega), if_neg (by omega)]
theorem pE_le {c d : Nat → Nat} {n st g q : Nat} (h1 : st < q) (h2 : q < n) (x : Nat) : x ≤ pE c d n st g q ↔ ∀ j, st ≤ j → j ≤ n → x ≤ pm_t (pm_g c st g n) d q j := by
  rw [pE_in h1 h2]; exact pm_both c d st g n q h1 h2 x
theorem nat_le_eq {a b : Nat} (h : ∀ x, x ≤ a ↔ x ≤ b) : a = b := by
  have h1 := (h a).1 (Nat.le_refl _)
  have h2 := (h b).2 (Nat.le_refl _)
  omega
theorem pE_c {c d : Nat → Nat} {n st g q : Nat} (h1 : st < q) (h2 : q < n) : pE c d n st g q ≤ c q := by
  have h := (pE_le (c := c) (d := d) (g := g) h1 h2 _).1 (Nat.le_refl _) q (by omega) (by omega)
  unfold pm_t pm_g at h
  rw [if_neg (by omega), if_neg (by omega), if_neg (by omega), Nat.sub_self] at h
  exact h
theorem pE_congr {c d c' d' : Nat → Nat} {n st g q : Nat} (h0 : st ≤ q) (hc : ∀ j, st < j → j < n → c j = c' j) (hd : ∀ k, k < n → d k = d' k) : pE c d n st g q = pE c' d' n st g q := by
  by_cases e : q = st
  · subst e; rw [pE_st, pE_st]
  · by_cases e2 : q < n
    · apply nat_le_eq
      intro x
      rw [pE_le (by omega) e2, pE_le (by omega) e2]
      have ht : ∀ j, st ≤ j → j ≤ n → pm_t (pm_g c st g n) d q j = pm_t (pm_g c' st g n) d' q j := by
        intro j j1 j2
        unfold pm_t
        have e3 : pm_g c st g n j = pm_g c' st g n j := by
          unfold pm_g
          by_cases a1 : j = n
          · rw [if_pos a1, if_pos a1]
          · by_cases a2 : j = st
            · rw [if_neg a1, if_neg a1, if_pos a2, if_pos a2]
            · rw [if_neg a1, if_neg a1, if_neg a2, if_neg a2]; exact hc j (by omega) (by omega)
        rw [e3, pm_S_eq (d := d') (d' := d) (i := q) (n := j - q) (fun k k1 k2 => hd k (by omega)), pm_S_eq (d := d') (d' := d) (i := j) (n := q - j) (fun k k1 k2 => hd k (by omega))]
      exact ⟨fun h j j1 j2 => by rw [← ht j j1 j2]; exact h j j1 j2, fun h j j1 j2 => by rw [ht j j1 j2]; exact h j j1 j2⟩
    · rw [pE_end (by omega) (by omega), pE_end (by omega) (by omega)]
theorem pm_S_sh (d : Nat → Nat) (i : Nat) : ∀ m, pm_S (fun k => d (k + 1)) i m = pm_S d (i + 1) m
  | 0 => rfl
  | m + 1 => by
    simp only [pm_S]
    rw [pm_S_sh d i m, show i + 1 + m = i + m + 1 by omega]
theorem pE_shift {c d : Nat → Nat} {n st g q : Nat} (h0 : st ≤ q) : pE (fun i => c (i + 1)) (fun i => d (i + 1)) n st g q = pE c d (n + 1) (st + 1) g (q + 1) := by
  by_cases e : q = st
  · subst e; rw [pE_st, pE_st]
  · by_cases e2 : q < n
    · apply nat_le_eq
      intro x
      rw [pE_le (by omega) e2, pE_le (by omega) (by omega)]
      have ht : ∀ j, st ≤ j → j ≤ n → pm_t (pm_g (fun i => c (i + 1)) st g n) (fun i => d (i + 1)) q j = pm_t (pm_g c (st + 1) g (n + 1)) d (q + 1) (j + 1) := by
        intro j j1 j2
        unfold pm_t
        have e3 : pm_g (fun i => c (i + 1)) st g n j = pm_g c (st + 1) g (n + 1) (j + 1) := by
          unfold pm_g
          by_cases a1 : j = n
          · rw [if_pos a1, if_pos (by omega)]
          · by_cases a2 : j = st
            · rw [if_neg a1, if_pos a2, if_neg (show ¬ j + 1 = n + 1 by omega), if_pos (show j + 1 = st + 1 by omega)]
            · rw [if_neg a1, if_neg a2, if_neg (show ¬ j + 1 = n + 1 by omega), if_neg (show ¬ j + 1 = st + 1 by omega)]
        rw [e3, pm_S_sh, pm_S_sh, show j + 1 - (q + 1) = j - q by omega, show q + 1 - (j + 1) = q - j by omega]
        by_cases a : q < j
        · rw [if_pos a, if_pos (by omega)]
        · rw [if_neg a, if_neg (by omega)]
      constructor
      · intro h j j1 j2
        have h1 := h (j - 1) (by omega) (by omega)
        rw [ht (j - 1) (by omega) (by omega), show j - 1 + 1 = j by omega] at h1
        exact h1
      · intro h j j1 j2
        rw [ht j j1 j2]; exact h (j + 1) (by omega) (by omega)
    · rw [pE_end (by omega) (by omega), pE_end (by omega) (by omega)]
-- a plan goes on as it was planned
theorem pE_next {c d : Nat → Nat} {n g q : Nat} (h1 : 1 ≤ q) : pE c d n 1 (pE c d n 0 g 1) q = pE c d n 0 g q := by
  by_cases e : q = 1
  · subst e; rw [pE_st]
  · by_cases e2 : q < n
    · have hv := fun y => pE_le (c := c) (d := d) (n := n) (st := 0) (g := g) (q := 1) (by omega) (by omega) y
      generalize pE c d n 0 g 1 = v at hv
      apply nat_le_eq
      intro x
      rw [pE_le (by omega) e2, pE_le (by omega) e2]
      have hg : ∀ j, 2 ≤ j → pm_g c 1 v n j = pm_g c 0 g n j := by
        intro j j2
        unfold pm_g
        rw [if_neg (show ¬ j = 1 by omega), if_neg (show ¬ j = 0 by omega)]
      have hs : ∀ j, 1 ≤ j → j ≤ q → pm_S d 1 (q - 1) = pm_S d 1 (j - 1) + pm_S d j (q - j) := by
        intro j j1 j2
        have := pm_S_add d 1 (j - 1) (q - j)
        rw [show j - 1 + (q - j) = q - 1 by omega, show 1 + (j - 1) = j by omega] at this
        exact this
      have hs2 : ∀ j, q ≤ j → pm_S d 1 (j - 1) = pm_S d 1 (q - 1) + pm_S d q (j - q) := by
        intro j j2
        have := pm_S_add d 1 (q - 1) (j - q)
        rw [show q - 1 + (j - q) = j - 1 by omega, show 1 + (q - 1) = q by omega] at this
        exact this
      have hs0 : pm_S d 0 q = pm_S d 0 1 + pm_S d 1 (q - 1) := by
        have := pm_S_add d 0 1 (q - 1)
        rw [show 1 + (q - 1) = q by omega] at this
        exact this
      have eg1 : pm_g c 1 v n 1 = v := by unfold pm_g; rw [if_neg (by omega), if_pos rfl]
      constructor
      · intro h j _ j2
        have h1 := h 1 (by omega) (by omega)
        have hj := (hv v).1 (Nat.le_refl _) j (by omega) j2
        unfold pm_t at h1 hj ⊢
        rw [eg1, if_neg (show ¬ q < 1 by omega)] at h1
        by_cases a0 : j = 0
        · subst a0
          rw [if_neg (by omega)] at hj ⊢
          rw [Nat.sub_zero] at hj ⊢
          omega
        · by_cases a1 : j = 1
          · subst a1
            rw [if_neg (by omega), Nat.sub_self] at hj
            rw [if_neg (by omega)]
            have : pm_S d 1 0 = 0 := rfl
            omega
          · have h3 := h j (by omega) j2
            unfold pm_t at h3
            rw [hg j (by omega)] at h3; exact h3
      · intro h j j1 j2
        by_cases a1 : j = 1
        · subst a1
          have h3 := (hv (x - pm_S d 1 (q - 1))).2 (fun j _ j2 => by
            have h4 := h j (by omega) j2
            unfold pm_t at h4 ⊢
            by_cases a0 : j = 0
            · subst a0
              rw [if_neg (by omega)] at h4 ⊢
              rw [Nat.sub_zero] at h4 ⊢
              omega
            · by_cases aj : j ≤ q
              · rw [if_neg (by omega)] at h4
                have := hs j (by omega) aj
                omega
              · rw [if_pos (by omega)] at h4 ⊢
                have := hs2 j (by omega)
                omega)
          unfold pm_t
          rw [eg1, if_neg (by omega)]
          omega
        · have h3 := h j (by omega) j2
          unfold pm_t at h3 ⊢
          rw [hg j (by omega)]; exact h3
    · rw [pE_end (by omega) (by omega), pE_end (by omega) (by omega)]
