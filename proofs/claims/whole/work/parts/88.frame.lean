-- A frame's words, purely, and both readers of it. (own work)
def wMi (T : Nat → Int) (n p : Int) : Int := if tAt T n (p + 1) = 45 then 1 else 0
def wFr (T : Nat → Int) (n p : Int) : Int := p + 1 + wMi T n p
def wEn (T : Nat → Int) (n p : Int) : Int := tDg T n (wFr T n p)
def wVl (T : Nat → Int) (n p : Int) : Int := if wMi T n p = 1 then - tNm T (wFr T n p) (wEn T n p - wFr T n p).toNat else tNm T (wFr T n p) (wEn T n p - wFr T n p).toNat
def wPs (T : Nat → Int) (n : Int) : Nat → Int
  | 0 => tSk T n 0
  | w + 1 => tSk T n (wEn T n (wPs T n w))
def wCap (T : Nat → Int) (n : Int) (w : Nat) : Prop := 65 ≤ tAt T n (wPs T n w) ∧ tAt T n (wPs T n w) ≤ 90
def wFine (T : Nat → Int) (n : Int) (w : Nat) : Prop := (1 ≤ wEn T n (wPs T n w) - wFr T n (wPs T n w) ∧ wEn T n (wPs T n w) - wFr T n (wPs T n w) ≤ 5) ∧ (w = 0 → wMi T n (wPs T n w) = 0)
def sumOk (T : Nat → Int) (n s : Int) : Prop := tAt T n s = 42 ∧ (1 ≤ tDg T n (s + 1) - (s + 1) ∧ tDg T n (s + 1) - (s + 1) ≤ 3) ∧ tSk T n (tDg T n (s + 1)) = n ∧ tNm T (s + 1) (tDg T n (s + 1) - (s + 1)).toNat = tXr T s.toNat
def isFr (T : Nat → Int) (n : Int) (W : Nat) : Prop := (∀ w, w < W → wCap T n w ∧ wFine T n w) ∧ ¬ wCap T n W ∧ 0 < W ∧ tAt T n (wPs T n 0) = 78 ∧ sumOk T n (wPs T n W)
theorem wMi_r (T : Nat → Int) (n p : Int) : 0 ≤ wMi T n p ∧ wMi T n p ≤ 1 := by unfold wMi; split <;> omega
theorem isFr_lt {T : Nat → Int} {n : Int} {W w : Nat} (h : isFr T n W) (hc : ∀ q, q ≤ w → wCap T n q) : w < W := by
  by_cases hw : w < W
  · exact hw
  · exact absurd (hc W (by omega)) h.2.1
-- where a word of at least one decimal ends
theorem wEn_n {T : Nat → Int} {n p : Int} (hp : 0 ≤ p) (h : 1 ≤ wEn T n p - wFr T n p) : wEn T n p ≤ n ∧ p + 2 ≤ wEn T n p := by
  have hm := wMi_r T n p
  have h1 : wFr T n p ≤ n := by
    have h2 := (tDg_in (T := T) (n := n) 0 (wFr T n p) (wFr T n p) (by omega) (by unfold wFr; omega) (by omega) (by unfold wEn at h; omega)).1
    have := tAt_pos (T := T) (n := n) (i := wFr T n p) (by omega)
    omega
  have h3 := (tDg_le (T := T) (n := n) (i := wFr T n p)).2 h1
  unfold wEn at h ⊢
  unfold wFr at *
  omega
theorem wPs_r {T : Nat → Int} {n : Int} (hk : okT T n) : ∀ w : Nat, (∀ q, q < w → wFine T n q) → 2 * (w : Int) ≤ wPs T n w ∧ wPs T n w ≤ n
  | 0, _ => by
    have := tSk_le (T := T) (n := n) (i := 0)
    have := hk.1
    simp only [wPs]; omega
  | w + 1, h => by
    have ih := wPs_r hk w (fun q hq => h q (by omega))
    have h1 := wEn_n (T := T) (n := n) (p := wPs T n w) (by omega) (h w (by omega)).1.1
    have h2 := tSk_le (T := T) (n := n) (i := wEn T n (wPs T n w))
    simp only [wPs]; omega
-- the number of a word
theorem wVl_r {T : Nat → Int} {n p : Int} (hp : 0 ≤ p) (h : wEn T n p - wFr T n p ≤ 5) (h1 : 1 ≤ wEn T n p - wFr T n p) : -99999 ≤ wVl T n p ∧ wVl T n p ≤ 99999 ∧ 0 ≤ tNm T (wFr T n p) (wEn T n p - wFr T n p).toNat ∧ (wMi T n p = 0 → 0 ≤ wVl T n p) := by
  have hm := wMi_r T n p
  have hf : 0 ≤ wFr T n p := by unfold wFr; omega
  have hd := tNm_r (T := T) (n := n) (i := wFr T n p) hf (wEn T n p - wFr T n p).toNat (by
    intro j hj
    have h2 := tDg_in (T := T) (n := n) j (wFr T n p) (wFr T n p + j) (by omega) hf (by omega) (by unfold wEn at hj; omega)
    have h3 := tAt_pos (T := T) (n := n) (i := wFr T n p + j) (by omega)
    rw [tAt, if_pos (by omega)] at h2
    exact h2)
  have hp : (10 : Int) ^ (wEn T n p - wFr T n p).toNat ≤ 100000 := by
    generalize hg : (wEn T n p - wFr T n p).toNat = l
    have : l ≤ 5 := by omega
    match l with
    | 0 => decide
    | 1 => decide
    | 2 => decide
    | 3 => decide
    | 4 => decide
    | 5 => decide
    | l + 6 => omega
  unfold wVl
  split <;> omega
-- isCapital, number
theorem c10 {M : zM} {a : Int} {R : Option zV → zM → Prop} (ha : zr a) (h : R (some (zI (if 65 ≤ a ∧ a ≤ 90 then 1 else 0))) M) : zF 10 [zI a] M R := by
  refine g10_0 ⟨by omega, fun c => ⟨rfl, ?_⟩, fun c => ⟨by omega, fun c2 => ⟨rfl, ?_⟩, fun c2 => ⟨rfl, ?_⟩⟩⟩
  · rw [if_neg (by omega)] at h; exact h
  · rw [if_neg (by omega)] at h; exact h
  · rw [if_pos (by omega)] at h; exact h
theorem c18 {M : zM} {R : Option zV → zM → Prop} (h : R (some (zI (M.1 5 0 0))) M) : zF 18 [zR 3 0] M R := g18_0 ⟨rfl, h⟩
-- the sum
theorem c16 {M : zM} {T : Nat → Int} {n s : Int} {R : Option zV → zM → Prop} (hT : cTx M T n) (hk : okT T n) (hs : 0 ≤ s ∧ s ≤ n) (h1 : sumOk T n s → R (some (zI 1)) M) (h0 : ¬ sumOk T n s → R (some (zI 0)) M) : zF 16 [zR 1 0, zI s] M R := by
  have hk1 := hk.1
  have hk2 := hk.2.1
  have hd := tDg_le (T := T) (n := n) (i := s + 1)
  have hr := tAt_r hk s
  refine g16_0 (c11 hT hk (by omega) (by omega) ⟨_, rfl, fun _ => c8 hT hk (by omega) ⟨_, rfl, fun _ => ⟨by omega, fun c => ⟨rfl, h0 fun q => c q.1⟩, fun c => ?_⟩⟩⟩)
  have hsn := tAt_pos (T := T) (n := n) (i := s) (by omega)
  have hd2 := hd.2 (by omega)
  refine ⟨by split <;> omega, fun c2 => ⟨rfl, h0 fun q => ?_⟩, fun c2 => ?_⟩
  · have := q.2.1; split at c2 <;> omega
  · by_cases h3 : tDg T n (s + 1) ≤ s + 1 + 3
    · rw [if_pos h3] at c2
      rw [if_pos h3]
      refine c9 hT hk (by omega) ⟨_, rfl, fun _ => c14 hT hk (by have := tSk_le (T := T) (n := n) (i := tDg T n (s + 1)); omega) ⟨_, rfl, fun _ => ⟨by split <;> omega, fun c4 => ⟨rfl, h0 fun q => ?_⟩, fun c4 => ?_⟩⟩⟩
      · rw [if_pos q.2.2.1] at c4; omega
      · have e : tDg T n (s + 1) = s + 1 + ((tDg T n (s + 1) - (s + 1)).toNat : Int) := by omega
        have h4 : tSk T n (tDg T n (s + 1)) = n := by
          by_cases hq : tSk T n (tDg T n (s + 1)) = n
          · exact hq
          · rw [if_neg hq] at c4; exact absurd rfl c4
        have hnum := tNm_r (T := T) (n := n) (i := s + 1) (by omega) (tDg T n (s + 1) - (s + 1)).toNat (by
          intro j hj
          have h2 := tDg_in (T := T) (n := n) j (s + 1) (s + 1 + j) (by omega) (by omega) (by omega) (by omega)
          have h3 := tAt_pos (T := T) (n := n) (i := s + 1 + j) (by omega)
          rw [tAt, if_pos (by omega)] at h2
          exact h2)
        have hpow : (10 : Int) ^ (tDg T n (s + 1) - (s + 1)).toNat ≤ 1000 := by
          generalize hg : (tDg T n (s + 1) - (s + 1)).toNat = l
          have : l ≤ 3 := by omega
          match l with
          | 0 => decide
          | 1 => decide
          | 2 => decide
          | 3 => decide
          | l + 4 => omega
        have hx := tXr_r hk s.toNat (by omega)
        have key : zF 12 [zR 1 0, zI (s + 1), zI (s + 1 + ((tDg T n (s + 1) - (s + 1)).toNat : Int))] M (fun v M5 => ∃ r5 : Int, v = some (zI r5) ∧ ∀ _ : Bool, zF 15 [zR 1 0, zI s] M5 (fun v M6 => ∃ r6 : Int, v = some (zI r6) ∧ ∀ cl6 : Bool, (zr r5 ∧ zr r6) ∧ ((¬ r5 = r6 → zq R (.inl (some (zI 0))) M6 cl6 0) ∧ (r5 = r6 → zq R (.inl (some (zI 1))) M6 cl6 0)))) := by
          refine c12 hT hk (by omega) ⟨_, rfl, fun _ => ?_⟩
          have k2 : zF 15 [zR 1 0, zI ((s.toNat : Nat) : Int)] M (fun v M6 => ∃ r6 : Int, v = some (zI r6) ∧ ∀ cl6 : Bool, (zr (tNm T (s + 1) (tDg T n (s + 1) - (s + 1)).toNat) ∧ zr r6) ∧ ((¬ (tNm T (s + 1) (tDg T n (s + 1) - (s + 1)).toNat) = r6 → zq R (.inl (some (zI 0))) M6 cl6 0) ∧ ((tNm T (s + 1) (tDg T n (s + 1) - (s + 1)).toNat) = r6 → zq R (.inl (some (zI 1))) M6 cl6 0))) :=
            c15 hT hk (by omega) ⟨_, rfl, fun _ => ⟨by omega, fun c5 => ⟨rfl, h0 fun q => c5 q.2.2.2⟩, fun c5 => ⟨rfl, h1 ⟨c, by omega, h4, c5⟩⟩⟩⟩
          rw [show ((s.toNat : Nat) : Int) = s by omega] at k2
          exact k2
        rw [← e] at key
        exact key
    · rw [if_neg h3] at c2
      rw [if_neg h3]
      have h5 := tDg_in (T := T) (n := n) 3 (s + 1) (s + 1 + 3) (by omega) (by omega) (by omega) (by omega)
      have h6 := tAt_pos (T := T) (n := n) (i := s + 1 + 3) (by omega)
      refine c9 hT hk (by omega) ⟨_, rfl, fun _ => c14 hT hk (by rw [tSk_ne (by omega) (by omega)]; omega) ⟨_, rfl, fun _ => ⟨by split <;> omega, fun c4 => ⟨rfl, h0 fun q => by have := q.2.1; omega⟩, fun c4 => ?_⟩⟩⟩
      rw [tSk_ne (by omega) (by omega), if_neg (by omega)] at c4
      exact absurd rfl c4
