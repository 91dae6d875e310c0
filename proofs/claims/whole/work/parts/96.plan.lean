-- The plan's arithmetic alone: two passes over the row = the least over all joints.
-- S d i n: d i + .. + d (i + n - 1)
def pm_S (d : Nat → Nat) (i : Nat) : Nat → Nat
  | 0 => 0
  | n + 1 => pm_S d i n + d (i + n)
theorem pm_S_add (d : Nat → Nat) (i n m : Nat) : pm_S d i (n + m) = pm_S d i n + pm_S d (i + n) m := by
  induction m with
  | zero => rfl
  | succ m ih => show pm_S d i (n + m) + d (i + (n + m)) = _; rw [ih, show i + (n + m) = i + n + m by omega]; simp only [pm_S]; omega
theorem pm_S_head (d : Nat → Nat) (i n : Nat) : pm_S d i (n + 1) = d i + pm_S d (i + 1) n := by
  have h := pm_S_add d i 1 n
  rw [Nat.add_comm 1 n] at h
  rw [h]
  simp [pm_S]
theorem pm_S_le {d d' : Nat → Nat} (h : ∀ k, d' k ≤ d k) (i n : Nat) : pm_S d' i n ≤ pm_S d i n := by
  induction n with
  | zero => exact Nat.le_refl _
  | succ n ih => have := h (i + n); simp only [pm_S]; omega
theorem pm_S_eq {d d' : Nat → Nat} {i n : Nat} (h : ∀ k, i ≤ k → k < i + n → d' k = d k) : pm_S d' i n = pm_S d i n := by
  induction n with
  | zero => rfl
  | succ n ih => simp only [pm_S]; rw [ih (fun k h1 h2 => h k h1 (by omega)), h (i + n) (by omega) (by omega)]
-- going up: n blocks behind the first
def pm_up (c d : Nat → Nat) (first given : Nat) : Nat → Nat
  | 0 => given
  | n + 1 => min (c (first + n + 1)) (pm_up c d first given n + d (first + n))
theorem pm_up_le (c d : Nat → Nat) (first given : Nat) : ∀ (n x : Nat), x ≤ pm_up c d first given n ↔ x ≤ given + pm_S d first n ∧ ∀ j, j < n → x ≤ c (first + j + 1) + pm_S d (first + j + 1) (n - j - 1) := by
  intro n
  induction n with
  | zero => intro x; simp [pm_up, pm_S]
  | succ n ih =>
    intro x
    have h1 : x ≤ pm_up c d first given n + d (first + n) ↔ x - d (first + n) ≤ pm_up c d first given n := by omega
    simp only [pm_up, Nat.le_min]
    rw [h1, ih]
    constructor
    · rintro ⟨a, b, e⟩
      refine ⟨by simp only [pm_S]; omega, fun j hj => ?_⟩
      by_cases hjn : j = n
      · subst hjn; rw [show j + 1 - j - 1 = 0 by omega]; simpa [pm_S] using a
      · have := e j (by omega)
        rw [show n + 1 - j - 1 = (n - j - 1) + 1 by omega]
        simp only [pm_S]
        rw [show first + j + 1 + (n - j - 1) = first + n by omega]
        omega
    · rintro ⟨a, e⟩
      refine ⟨by have := e n (by omega); rw [show n + 1 - n - 1 = 0 by omega] at this; simpa [pm_S] using this, by simp only [pm_S] at a; omega, fun j hj => ?_⟩
      have := e j (by omega)
      rw [show n + 1 - j - 1 = (n - j - 1) + 1 by omega] at this
      simp only [pm_S] at this
      rw [show first + j + 1 + (n - j - 1) = first + n by omega] at this
      omega
-- going down: f is what going up gave; m: how far from the row's end
def pm_dn (f d : Nat → Nat) (count : Nat) : Nat → Nat
  | 0 => 0
  | m + 1 => min (f (count - (m + 1))) (pm_dn f d count m + d (count - (m + 1)))
theorem pm_dn_le (f d : Nat → Nat) (count : Nat) : ∀ (m x : Nat), m ≤ count → (x ≤ pm_dn f d count m ↔ (x ≤ pm_S d (count - m) m ∧ ∀ j, j < m → x ≤ f (count - m + j) + pm_S d (count - m) j)) := by
  intro m
  induction m with
  | zero => intro x _; simp [pm_dn, pm_S]
  | succ m ih =>
    intro x hm
    have h1 : x ≤ pm_dn f d count m + d (count - (m + 1)) ↔ x - d (count - (m + 1)) ≤ pm_dn f d count m := by omega
    simp only [pm_dn, Nat.le_min]
    rw [h1, ih _ (by omega)]
    have hc : count - m = count - (m + 1) + 1 := by omega
    rw [hc]
    constructor
    · rintro ⟨a, b, e⟩
      refine ⟨by rw [pm_S_head]; omega, fun j hj => ?_⟩
      cases j with
      | zero => simpa [pm_S] using a
      | succ j =>
        have := e j (by omega)
        rw [pm_S_head, show count - (m + 1) + (j + 1) = count - (m + 1) + 1 + j by omega]
        omega
    · rintro ⟨a, e⟩
      refine ⟨by simpa [pm_S] using e 0 (by omega), by rw [pm_S_head] at a; omega, fun j hj => ?_⟩
      have := e (j + 1) (by omega)
      rw [pm_S_head, show count - (m + 1) + (j + 1) = count - (m + 1) + 1 + j by omega] at this
      omega
-- the term of joint j at block i (first ≤ j ≤ count): its ceiling and the way between
def pm_t (g d : Nat → Nat) (i j : Nat) : Nat := g j + (if i < j then pm_S d i (j - i) else pm_S d j (i - j))
-- g: given at first, c behind it, 0 at count
def pm_g (c : Nat → Nat) (first given count : Nat) (j : Nat) : Nat := if j = count then 0 else if j = first then given else c j
-- both passes: least over all joints
theorem pm_both (c d : Nat → Nat) (first given count i : Nat) (h1 : first < i) (h2 : i < count) (x : Nat) :
    x ≤ pm_dn (fun q => pm_up c d first given (q - first)) d count (count - i) ↔ ∀ j, first ≤ j → j ≤ count → x ≤ pm_t (pm_g c first given count) d i j := by
  rw [pm_dn_le _ _ _ _ _ (by omega), show count - (count - i) = i by omega]
  constructor
  · rintro ⟨a, e⟩ j hj1 hj2
    unfold pm_t pm_g
    by_cases hc : j = count
    · subst hc
      rw [if_pos rfl, if_pos h2]; omega
    · rw [if_neg hc]
      by_cases hij : i < j
      · -- the block j itself, going down
        rw [if_neg (by omega : ¬ j = first), if_pos hij]
        have := e (j - i) (by omega)
        rw [show i + (j - i) = j by omega] at this
        have hu := (pm_up_le c d first given (j - first) (x - pm_S d i (j - i))).mp (by omega)
        have h3 := hu.2 (j - first - 1) (by omega)
        rw [show first + (j - first - 1) + 1 = j by omega, show j - first - (j - first - 1) - 1 = 0 by omega] at h3
        simp only [pm_S] at h3
        omega
      · rw [if_neg hij]
        have := e 0 (by omega)
        simp only [pm_S, Nat.add_zero] at this
        have hu := (pm_up_le c d first given (i - first) x).mp this
        by_cases hf : j = first
        · subst hf; rw [if_pos rfl]; exact hu.1
        · rw [if_neg hf]
          have h3 := hu.2 (j - first - 1) (by omega)
          rw [show first + (j - first - 1) + 1 = j by omega, show i - first - (j - first - 1) - 1 = i - j by omega] at h3
          exact h3
  · intro h
    refine ⟨?_, fun j hj => ?_⟩
    · have := h count (by omega) (Nat.le_refl _)
      unfold pm_t pm_g at this
      rw [if_pos rfl, if_pos h2] at this
      omega
    · have key : x - pm_S d i j ≤ pm_up c d first given (i + j - first) := by
        rw [pm_up_le]
        have hs : ∀ q, first ≤ q → q ≤ i → pm_S d q (i + j - q) = pm_S d q (i - q) + pm_S d i j := by
          intro q _ hq
          have := pm_S_add d q (i - q) j
          rw [show q + (i - q) = i by omega, show i - q + j = i + j - q by omega] at this
          exact this
        refine ⟨?_, fun q hq => ?_⟩
        · have := h first (Nat.le_refl _) (by omega)
          unfold pm_t pm_g at this
          rw [if_neg (by omega : ¬ first = count), if_pos rfl, if_neg (by omega : ¬ i < first)] at this
          rw [hs first (Nat.le_refl _) (by omega)]
          omega
        · have := h (first + q + 1) (by omega) (by omega)
          unfold pm_t pm_g at this
          rw [if_neg (by omega : ¬ first + q + 1 = count), if_neg (by omega : ¬ first + q + 1 = first)] at this
          rw [show i + j - first - q - 1 = i + j - (first + q + 1) by omega]
          by_cases hq2 : i < first + q + 1
          · rw [if_pos hq2] at this
            -- the way from i to that joint is a part of the way to i + j
            have h4 := pm_S_add d i (first + q + 1 - i) (i + j - (first + q + 1))
            rw [show first + q + 1 - i + (i + j - (first + q + 1)) = j by omega] at h4
            omega
          · rw [if_neg hq2] at this
            rw [hs (first + q + 1) (by omega) (by omega)]
            omega
      have : first ≤ i + j := by omega
      show x ≤ pm_up c d first given (i + j - first) + pm_S d i j
      omega
-- a block z that pauses: its own joint and the one behind it are 0, so what its way weighs never shows
theorem pm_pause (c d d' : Nat → Nat) (z : Nat → Bool) (first given count i : Nat) (h1 : first < i) (h2 : i < count) (hd : ∀ k, d' k = if z k then 0 else d k)
    (hz : ∀ j, first < j → j < count → (z j = true ∨ z (j - 1) = true) → c j = 0) (x : Nat) :
    (∀ j, first ≤ j → j ≤ count → x ≤ pm_t (pm_g c first given count) d i j) ↔ ∀ j, first ≤ j → j ≤ count → x ≤ pm_t (pm_g c first given count) d' i j := by
  have hle : ∀ k, d' k ≤ d k := fun k => by rw [hd]; split <;> omega
  constructor
  · intro h
    -- to the left: by the distance from i
    have left : ∀ n, n ≤ i - first → x ≤ pm_t (pm_g c first given count) d' i (i - n) ∨ ∃ p, i - n ≤ p ∧ p < i ∧ x ≤ pm_S d' (p + 1) (i - (p + 1)) := by
      intro n hn
      by_cases hany : ∃ p, i - n ≤ p ∧ p < i ∧ z p = true ∧ ∀ q, p < q → q < i → z q = false
      · obtain ⟨p, a1, a2, a3, a4⟩ := hany
        refine Or.inr ⟨p, a1, a2, ?_⟩
        have := h (p + 1) (by omega) (by omega)
        unfold pm_t pm_g at this
        rw [if_neg (by omega : ¬ p + 1 = count), if_neg (by omega : ¬ p + 1 = first), if_neg (by omega : ¬ i < p + 1), hz (p + 1) (by omega) (by omega) (Or.inr (by simpa using a3))] at this
        rw [pm_S_eq (d := d) (fun k k1 k2 => by rw [hd, a4 k (by omega) (by omega)]; rfl)]
        omega
      · refine Or.inl ?_
        -- no pause between: the ways are the same
        have hno : ∀ m, m ≤ n → ∀ q, i - m ≤ q → q < i → z q = false := by
          intro m
          induction m with
          | zero => intro _ q q1 q2; omega
          | succ m ih =>
            intro hm q q1 q2
            by_cases hq : i - m ≤ q
            · exact ih (by omega) q hq q2
            · cases hzq : z q with
              | false => rfl
              | true => exact absurd ⟨q, by omega, q2, hzq, fun r r1 r2 => ih (by omega) r (by omega) r2⟩ hany
        have := h (i - n) (by omega) (by omega)
        unfold pm_t at this ⊢
        rw [if_neg (by omega : ¬ i < i - n)] at this ⊢
        rw [pm_S_eq (d := d) (fun k k1 k2 => by rw [hd, hno n (Nat.le_refl _) k (by omega) (by omega)]; rfl)]
        exact this
    have right : ∀ n, i + n ≤ count → 0 < n → x ≤ pm_t (pm_g c first given count) d' i (i + n) ∨ ∃ p, i ≤ p ∧ p < i + n ∧ x ≤ pm_S d' i (p - i) := by
      intro n hn hn0
      by_cases hany : ∃ p, i ≤ p ∧ p < i + n ∧ z p = true ∧ ∀ q, i ≤ q → q < p → z q = false
      · obtain ⟨p, a1, a2, a3, a4⟩ := hany
        refine Or.inr ⟨p, a1, a2, ?_⟩
        have := h p (by omega) (by omega)
        unfold pm_t pm_g at this
        rw [if_neg (by omega : ¬ p = count), if_neg (by omega : ¬ p = first), hz p (by omega) (by omega) (Or.inl a3)] at this
        rw [pm_S_eq (d := d) (fun k k1 k2 => by rw [hd, a4 k (by omega) (by omega)]; rfl)]
        by_cases hip : i < p
        · rw [if_pos hip] at this; omega
        · rw [if_neg hip, show p = i by omega, Nat.sub_self] at this
          rw [show p - i = 0 by omega]
          simpa [pm_S] using this
      · refine Or.inl ?_
        have hno : ∀ m, m ≤ n → ∀ q, i ≤ q → q < i + m → z q = false := by
          intro m
          induction m with
          | zero => intro _ q q1 q2; omega
          | succ m ih =>
            intro hm q q1 q2
            by_cases hq : q < i + m
            · exact ih (by omega) q q1 hq
            · cases hzq : z q with
              | false => rfl
              | true => exact absurd ⟨q, q1, by omega, hzq, fun r r1 r2 => ih (by omega) r r1 (by omega)⟩ hany
        have := h (i + n) (by omega) hn
        unfold pm_t at this ⊢
        rw [if_pos (by omega : i < i + n)] at this ⊢
        rw [pm_S_eq (d := d) (fun k k1 k2 => by rw [hd, hno n (Nat.le_refl _) k (by omega) (by omega)]; rfl)]
        exact this
    intro j hj1 hj2
    by_cases hij : i < j
    · rcases right (j - i) (by omega) (by omega) with h5 | ⟨p, p1, p2, h5⟩
      · rwa [show i + (j - i) = j by omega] at h5
      · unfold pm_t; rw [if_pos hij]
        have := pm_S_add d' i (p - i) (j - p)
        rw [show p - i + (j - p) = j - i by omega] at this
        omega
    · rcases left (i - j) (by omega) with h5 | ⟨p, p1, p2, h5⟩
      · rwa [show i - (i - j) = j by omega] at h5
      · unfold pm_t; rw [if_neg hij]
        have := pm_S_add d' j (p + 1 - j) (i - (p + 1))
        rw [show j + (p + 1 - j) = p + 1 by omega, show p + 1 - j + (i - (p + 1)) = i - j by omega] at this
        omega
  · intro h j hj1 hj2
    refine Nat.le_trans (h j hj1 hj2) ?_
    unfold pm_t
    split
    · have := pm_S_le hle i (j - i); omega
    · have := pm_S_le hle j (i - j); omega
