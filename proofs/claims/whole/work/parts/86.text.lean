-- The text, purely: T: its characters, n: how many. (own work)
def okT (T : Nat → Int) (n : Int) : Prop := 0 ≤ n ∧ n ≤ 80 ∧ ∀ i : Nat, (i : Int) < n → 32 ≤ T i ∧ T i ≤ 126
def cTx (M : zM) (T : Nat → Int) (n : Int) : Prop := M.1 1 0 1 = n ∧ ∀ i : Nat, (i : Int) < n → M.1 2 0 i = T i
def mTx (M : zM) (T : Nat → Int) (n : Int) : Prop := M.1 18 0 2 = n ∧ ∀ i : Nat, (i : Int) < n → M.1 19 0 i = T i
def tAt (T : Nat → Int) (n i : Int) : Int := if 0 ≤ i ∧ i < n then T i.toNat else 0
def tSkf (T : Nat → Int) : Nat → Int → Int
  | 0, i => i
  | f + 1, i => if T i.toNat = 32 then tSkf T f (i + 1) else i
def tSk (T : Nat → Int) (n i : Int) : Int := tSkf T (n - i).toNat i
def tDgf (T : Nat → Int) : Nat → Int → Int
  | 0, i => i
  | f + 1, i => if 48 ≤ T i.toNat ∧ T i.toNat ≤ 57 then tDgf T f (i + 1) else i
def tDg (T : Nat → Int) (n i : Int) : Int := tDgf T (n - i).toNat i
def tNm (T : Nat → Int) (i : Int) : Nat → Int
  | 0 => 0
  | l + 1 => tNm T i l * 10 + (T (i + l).toNat - 48)
def tXr (T : Nat → Int) : Nat → Int
  | 0 => 0
  | k + 1 => Int.ofNat (Int.toNat (tXr T k) ^^^ Int.toNat (T k))
theorem tAt_r {T : Nat → Int} {n : Int} (h : okT T n) (i : Int) : 0 ≤ tAt T n i ∧ tAt T n i ≤ 126 := by
  unfold tAt
  split
  · have := h.2.2 i.toNat (by omega); omega
  · omega
theorem tAt_pos {T : Nat → Int} {n : Int} {i : Int} (h : ¬ tAt T n i = 0) : 0 ≤ i ∧ i < n := by
  unfold tAt at h
  split at h
  · assumption
  · exact absurd rfl h
theorem tSk_eq {T : Nat → Int} {n : Int} {i : Int} (hi : 0 ≤ i) (h : tAt T n i = 32) : tSk T n i = tSk T n (i + 1) := by
  have h1 : 0 ≤ i ∧ i < n := tAt_pos (T := T) (by omega)
  unfold tAt at h
  rw [if_pos h1] at h
  unfold tSk
  rw [show (n - i).toNat = (n - (i + 1)).toNat + 1 by omega, tSkf, if_pos h]
theorem tSk_ne {T : Nat → Int} {n : Int} {i : Int} (hi : 0 ≤ i) (h : ¬ tAt T n i = 32) : tSk T n i = i := by
  unfold tSk
  by_cases h1 : i < n
  · unfold tAt at h
    rw [if_pos ⟨hi, h1⟩] at h
    rw [show (n - i).toNat = (n - (i + 1)).toNat + 1 by omega, tSkf, if_neg h]
  · rw [show (n - i).toNat = 0 by omega]; rfl
theorem tDg_eq {T : Nat → Int} {n : Int} {i : Int} (hi : 0 ≤ i) (h : 48 ≤ tAt T n i ∧ tAt T n i ≤ 57) : tDg T n i = tDg T n (i + 1) := by
  have h1 : 0 ≤ i ∧ i < n := tAt_pos (T := T) (by omega)
  unfold tAt at h
  rw [if_pos h1] at h
  unfold tDg
  rw [show (n - i).toNat = (n - (i + 1)).toNat + 1 by omega, tDgf, if_pos h]
theorem tDg_ne {T : Nat → Int} {n : Int} {i : Int} (hi : 0 ≤ i) (h : ¬ (48 ≤ tAt T n i ∧ tAt T n i ≤ 57)) : tDg T n i = i := by
  unfold tDg
  by_cases h1 : i < n
  · unfold tAt at h
    rw [if_pos ⟨hi, h1⟩] at h
    rw [show (n - i).toNat = (n - (i + 1)).toNat + 1 by omega, tDgf, if_neg h]
  · rw [show (n - i).toNat = 0 by omega]; rfl
theorem tSkf_le (T : Nat → Int) : ∀ (f : Nat) (i : Int), i ≤ tSkf T f i ∧ tSkf T f i ≤ i + f
  | 0, i => by simp only [tSkf]; omega
  | f + 1, i => by
    have := tSkf_le T f (i + 1)
    simp only [tSkf]; split <;> omega
theorem tDgf_le (T : Nat → Int) : ∀ (f : Nat) (i : Int), i ≤ tDgf T f i ∧ tDgf T f i ≤ i + f
  | 0, i => by simp only [tDgf]; omega
  | f + 1, i => by
    have := tDgf_le T f (i + 1)
    simp only [tDgf]; split <;> omega
theorem tSk_le {T : Nat → Int} {n i : Int} : i ≤ tSk T n i ∧ (i ≤ n → tSk T n i ≤ n) := by
  have := tSkf_le T (n - i).toNat i
  unfold tSk; omega
theorem tDg_le {T : Nat → Int} {n i : Int} : i ≤ tDg T n i ∧ (i ≤ n → tDg T n i ≤ n) := by
  have := tDgf_le T (n - i).toNat i
  unfold tDg; omega
-- what stands at their ends, and between
theorem tSk_end {T : Nat → Int} {n : Int} : ∀ (f : Nat) (i : Int), (n - i).toNat ≤ f → 0 ≤ i → ¬ tAt T n (tSk T n i) = 32
  | f, i, hf, hi => by
    by_cases h : tAt T n i = 32
    · have h1 := tAt_pos (T := T) (n := n) (i := i) (by omega)
      rw [tSk_eq hi h]
      match f with
      | 0 => omega
      | f + 1 => exact tSk_end f (i + 1) (by omega) (by omega)
    · rw [tSk_ne hi h]; exact h
theorem tDg_end {T : Nat → Int} {n : Int} : ∀ (f : Nat) (i : Int), (n - i).toNat ≤ f → 0 ≤ i → ¬ (48 ≤ tAt T n (tDg T n i) ∧ tAt T n (tDg T n i) ≤ 57)
  | f, i, hf, hi => by
    by_cases h : 48 ≤ tAt T n i ∧ tAt T n i ≤ 57
    · have h1 := tAt_pos (T := T) (n := n) (i := i) (by omega)
      rw [tDg_eq hi h]
      match f with
      | 0 => omega
      | f + 1 => exact tDg_end f (i + 1) (by omega) (by omega)
    · rw [tDg_ne hi h]; exact h
theorem tDg_in {T : Nat → Int} {n : Int} : ∀ (f : Nat) (i j : Int), (j - i).toNat ≤ f → 0 ≤ i → i ≤ j → j < tDg T n i → 48 ≤ tAt T n j ∧ tAt T n j ≤ 57
  | f, i, j, hf, hi, hj, h => by
    by_cases h1 : 48 ≤ tAt T n i ∧ tAt T n i ≤ 57
    · by_cases h2 : i = j
      · rw [← h2]; exact h1
      · rw [tDg_eq hi h1] at h
        match f with
        | 0 => omega
        | f + 1 => exact tDg_in f (i + 1) j (by omega) (by omega) (by omega) h
    · rw [tDg_ne hi h1] at h; omega
theorem tXr_r {T : Nat → Int} {n : Int} (h : okT T n) : ∀ k : Nat, (k : Int) ≤ n → 0 ≤ tXr T k ∧ tXr T k < 128
  | 0, _ => by simp only [tXr]; omega
  | k + 1, hk => by
    have h1 := tXr_r h k (by omega)
    have h2 := h.2.2 k (by omega)
    have h3 : (tXr T k).toNat < 2 ^ 7 := by omega
    have h4 : (T k).toNat < 2 ^ 7 := by omega
    have h5 := Nat.xor_lt_two_pow h3 h4
    simp only [tXr, Int.ofNat_eq_natCast]
    omega
theorem tNm_r {T : Nat → Int} {n : Int} {i : Int} (hi : 0 ≤ i) : ∀ l : Nat, (∀ j : Nat, j < l → 48 ≤ T (i + j).toNat ∧ T (i + j).toNat ≤ 57) → 0 ≤ tNm T i l ∧ tNm T i l < 10 ^ l
  | 0, _ => by simp only [tNm]; omega
  | l + 1, h => by
    have h1 := tNm_r (n := n) hi l (fun j hj => h j (by omega))
    have h2 := h l (by omega)
    simp only [tNm]
    rw [Int.pow_succ]
    omega
abbrev zq (R : Option zV → zM → Prop) : zQ := fun o M' _ e => match o with
  | .inl v => e = 0 ∧ R v M'
  | .inr _ => False
theorem z_w_w (m : zM) (k j s : Nat) (v w : Int) : z_w (z_w m k j s v) k j s w = z_w m k j s w := by
  refine Prod.ext ?_ rfl
  funext a b c
  rw [z_w_get, z_w_get, z_w_get]
  split
  · rfl
  · rfl
theorem z_w_id (m : zM) (k j s : Nat) : z_w m k j s (m.1 k j s) = m := by
  refine Prod.ext ?_ rfl
  funext a b c
  rw [z_w_get]
  split
  · rename_i h; rw [h.1, h.2.1, h.2.2]
  · rfl
-- Text.at, see
theorem c8 {M : zM} {T : Nat → Int} {n i : Int} {R : Option zV → zM → Prop} (hT : cTx M T n) (hk : okT T n) (hi : zr i) (h : R (some (zI (tAt T n i))) M) : zF 8 [zR 1 0, zI i] M R := by
  have hn := hT.1
  have hk1 := hk.1
  have hk2 := hk.2.1
  refine g8_0 ⟨hi, fun c => ⟨rfl, ?_⟩, fun c => ⟨by omega, fun c2 => ⟨rfl, ?_⟩, fun c2 => ⟨by omega, ?_, rfl, ?_⟩⟩⟩
  · rw [tAt, if_neg (by omega)] at h; exact h
  · rw [tAt, if_neg (by omega)] at h; exact h
  · rw [hT.2 _ (by omega)]; have := hk.2.2 i.toNat (by omega); omega
  · rw [tAt, if_pos (by omega), ← hT.2 _ (by omega)] at h; exact h
theorem c51 {M : zM} {T : Nat → Int} {n i : Int} {R : Option zV → zM → Prop} (hT : mTx M T n) (hk : okT T n) (hi : 0 ≤ i ∧ i ≤ 2147483647) (h : R (some (zI (tAt T n i))) M) : zF 51 [zR 18 0, zI i] M R := by
  have hn := hT.1
  have hk1 := hk.1
  have hk2 := hk.2.1
  refine g51_0 ⟨by omega, fun c2 => ⟨rfl, ?_⟩, fun c2 => ⟨by omega, ?_, rfl, ?_⟩⟩
  · rw [tAt, if_neg (by omega)] at h; exact h
  · rw [hT.2 _ (by omega)]; have := hk.2.2 i.toNat (by omega); omega
  · rw [tAt, if_pos (by omega), ← hT.2 _ (by omega)] at h; exact h
-- skipBlanks
theorem c9 {M : zM} {T : Nat → Int} {n i : Int} {R : Option zV → zM → Prop} (hT : cTx M T n) (hk : okT T n) (hi : 0 ≤ i ∧ i ≤ 2147483000) (h : R (some (zI (tSk T n i))) M) : zF 9 [zR 1 0, zI i] M R := by
  have hn := hT.1
  have hk1 := hk.1
  have hk2 := hk.2.1
  refine g9_0 ?_
  have key : ∀ (f : Nat) (x : Int) (cl : Bool), (n - x).toNat ≤ f → 0 ≤ x → x ≤ 2147483000 → tSk T n x = tSk T n i → zT 9 (2, [some (zR 1 0), some (zI i), some (zI x)], [], M, cl) (zq R) := by
    intro f
    induction f with
    | zero =>
      intro x cl hf h0 h1 hx
      refine g9_2 ⟨by omega, fun c => ⟨rfl, ?_⟩, fun c => by omega⟩
      rw [← hx, tSk_ne h0 (by rw [tAt, if_neg (by omega)]; omega)] at h; exact h
    | succ f ih =>
      intro x cl hf h0 h1 hx
      refine g9_2 ⟨by omega, fun c => ⟨rfl, ?_⟩, fun c => ?_⟩
      · rw [← hx, tSk_ne h0 (by rw [tAt, if_neg (by omega)]; omega)] at h; exact h
      · refine c8 hT hk (by omega) ⟨_, rfl, fun cl1 => ⟨by have := tAt_r hk x; omega, fun c2 => ⟨rfl, ?_⟩, fun c2 => ?_⟩⟩
        · rw [← hx, tSk_ne h0 c2] at h; exact h
        · exact ih _ _ (by omega) (by omega) (by omega) (by rw [← tSk_eq h0 c2]; exact hx)
  exact key _ _ _ (Nat.le_refl _) hi.1 hi.2 rfl
-- blanks
theorem c52 {M : zM} {T : Nat → Int} {n : Int} {R : Option zV → zM → Prop} (hT : mTx M T n) (hk : okT T n) (hi : 0 ≤ M.1 18 0 7 ∧ M.1 18 0 7 ≤ 80) (h : R none (z_w M 18 0 7 (tSk T n (M.1 18 0 7)))) : zF 52 [zR 18 0] M R := by
  have hk1 := hk.1
  have hk2 := hk.2.1
  have key : ∀ (f : Nat) (x : Int) (cl : Bool), (n - x).toNat ≤ f → 0 ≤ x → x ≤ 80 → tSk T n x = tSk T n (M.1 18 0 7) → zT 52 (0, [some (zR 18 0)], [], z_w M 18 0 7 x, cl) (zq R) := by
    intro f
    induction f with
    | zero =>
      intro x cl hf h0 h1 hx
      have hne : ¬ tAt T n x = 32 := by rw [tAt, if_neg (by omega)]; omega
      refine g52_0 ?_
      refine c51 (T := T) (n := n) (i := x) hT hk (show 0 ≤ x ∧ x ≤ 2147483647 by omega) ⟨_, rfl, fun cl1 => ⟨by have := tAt_r hk x; omega, fun c => ⟨rfl, ?_⟩, fun c => absurd c hne⟩⟩
      rw [← hx, tSk_ne h0 hne] at h; exact h
    | succ f ih =>
      intro x cl hf h0 h1 hx
      refine g52_0 ?_
      refine c51 (T := T) (n := n) (i := x) hT hk (show 0 ≤ x ∧ x ≤ 2147483647 by omega) ⟨_, rfl, fun cl1 => ⟨by have := tAt_r hk x; omega, fun c => ⟨rfl, ?_⟩, fun c => ?_⟩⟩
      · rw [← hx, tSk_ne h0 c] at h; exact h
      · have h2 := tAt_pos (T := T) (n := n) (i := x) (by omega)
        rw [z_w_w]
        exact ih (x + 1) _ (by omega) (by omega) (by omega) (by rw [← tSk_eq h0 c]; exact hx)
  have h3 := key _ (M.1 18 0 7) true (Nat.le_refl _) hi.1 hi.2 rfl
  rw [z_w_id] at h3
  exact h3
-- skipDecimals
theorem c11 {M : zM} {T : Nat → Int} {n i most : Int} {R : Option zV → zM → Prop} (hT : cTx M T n) (hk : okT T n) (hi : 0 ≤ i ∧ i ≤ 1000) (hm : 0 ≤ most ∧ most ≤ 5) (h : R (some (zI (if tDg T n i ≤ i + most then tDg T n i else i + most))) M) : zF 11 [zR 1 0, zI i, zI most] M R := by
  have hn := hT.1
  have hk1 := hk.1
  have hk2 := hk.2.1
  refine g11_0 ?_
  have key : ∀ (f : Nat) (x : Int) (cl : Bool), (i + most - x).toNat ≤ f → i ≤ x → x ≤ i + most → tDg T n x = tDg T n i → zT 11 (2, [some (zR 1 0), some (zI i), some (zI most), some (zI x)], [], M, cl) (zq R) := by
    intro f
    induction f with
    | zero =>
      intro x cl hf h0 h1 hx
      refine g11_2 ⟨by omega, fun c => ⟨rfl, ?_⟩, fun c => by omega⟩
      have h2 := (tDg_le (T := T) (n := n) (i := x)).1
      have h3 : x = i + most := by omega
      by_cases h4 : tDg T n i ≤ i + most
      · rw [if_pos h4] at h; rw [show x = tDg T n i by omega]; exact h
      · rw [if_neg h4] at h; rw [h3]; exact h
    | succ f ih =>
      intro x cl hf h0 h1 hx
      have hr := tAt_r hk x
      have h2 := (tDg_le (T := T) (n := n) (i := x)).1
      refine g11_2 ⟨by omega, fun c => ⟨rfl, ?_⟩, fun c => ?_⟩
      · have h3 : x = i + most := by omega
        by_cases h4 : tDg T n i ≤ i + most
        · rw [if_pos h4] at h; rw [show x = tDg T n i by omega]; exact h
        · rw [if_neg h4] at h; rw [h3]; exact h
      · refine c8 hT hk (by omega) ⟨_, rfl, fun cl1 => ⟨by omega, fun c2 => ⟨rfl, ?_⟩, fun c2 => ?_⟩⟩
        · rw [← hx, tDg_ne (by omega) (by omega), if_pos h1] at h; exact h
        · refine c8 hT hk (by omega) ⟨_, rfl, fun cl2 => ⟨by omega, fun c3 => ⟨rfl, ?_⟩, fun c3 => ?_⟩⟩
          · rw [← hx, tDg_ne (by omega) (by omega), if_pos h1] at h; exact h
          · exact ih _ _ (by omega) (by omega) (by omega) (by rw [← tDg_eq (by omega) (by omega)]; exact hx)
  exact key _ _ _ (Nat.le_refl _) (by omega) (by omega) rfl
-- decimals of the text
theorem c12 {M : zM} {T : Nat → Int} {n i : Int} {l : Nat} {R : Option zV → zM → Prop} (hT : cTx M T n) (hk : okT T n) (hi : 0 ≤ i ∧ i + l ≤ n) (h : R (some (zI (tNm T i l))) M) : zF 12 [zR 1 0, zI i, zI (i + l)] M R := by
  have hn := hT.1
  have hk1 := hk.1
  have hk2 := hk.2.1
  refine g12_0 ?_
  have key : ∀ (f : Nat) (j : Nat) (cl : Bool), l - j ≤ f → j ≤ l → zT 12 (5, [some (zR 1 0), some (zI i), some (zI (i + l)), some (zI (tNm T i j)), some (zI (i + j))], [], M, cl) (zq R) := by
    intro f
    induction f with
    | zero =>
      intro j cl hf h0
      refine g12_5 ⟨by omega, fun c => ⟨rfl, ?_⟩, fun c => by omega⟩
      rw [show j = l by omega]; exact h
    | succ f ih =>
      intro j cl hf h0
      refine g12_5 ⟨by omega, fun c => ⟨rfl, ?_⟩, fun c => ?_⟩
      · rw [show j = l by omega]; exact h
      · refine c8 hT hk (by omega) ⟨_, rfl, fun cl1 => ?_⟩
        have h3 := ih (j + 1) cl1 (by omega) (by omega)
        rw [tNm] at h3
        rw [tAt, if_pos (by omega)]
        rw [show (i + ((j + 1 : Nat) : Int)) = i + j + 1 by omega] at h3
        exact h3
  have h4 := key _ 0 true (Nat.le_refl _) (by omega)
  rw [show i + ((0 : Nat) : Int) = i by omega] at h4
  exact h4
-- decimals of the reference
def mNm (T : Nat → Int) (n i most : Int) : Int := if tDg T n i - i < 1 ∨ most < tDg T n i - i then -1 else tNm T i (tDg T n i - i).toNat
theorem c53 {M : zM} {T : Nat → Int} {n most : Int} {R : Option zV → zM → Prop} (hT : mTx M T n) (hk : okT T n) (hi : 0 ≤ M.1 18 0 7 ∧ M.1 18 0 7 ≤ 81) (hm : 0 ≤ most ∧ most ≤ 5) (h : R (some (zI (mNm T n (M.1 18 0 7) most))) (z_w M 18 0 7 (tDg T n (M.1 18 0 7)))) : zF 53 [zR 18 0, zI most] M R := by
  have hk1 := hk.1
  have hk2 := hk.2.1
  refine g53_0 ?_
  have key : ∀ (f : Nat) (d : Nat) (cl : Bool) (v : Int), (n - (M.1 18 0 7 + d)).toNat ≤ f → M.1 18 0 7 + d ≤ 81 → (d ≤ 6 → v = tNm T (M.1 18 0 7) d) → tDg T n (M.1 18 0 7 + d) = tDg T n (M.1 18 0 7) → zT 53 (4, [some (zR 18 0), some (zI most), some (zI v), some (zI d)], [], z_w M 18 0 7 (M.1 18 0 7 + d), cl) (zq R) := by
    intro f
    induction f with
    | zero =>
      intro d cl v hf h0 hv hd
      have hne : tAt T n (M.1 18 0 7 + d) = 0 := by rw [tAt, if_neg (by omega)]
      have h5 : tDg T n (M.1 18 0 7) = M.1 18 0 7 + d := by rw [← hd, tDg_ne (by omega) (by omega)]
      rw [mNm, h5] at h
      refine g53_4 ?_
      refine c51 (T := T) (n := n) (i := M.1 18 0 7 + d) hT hk (show 0 ≤ M.1 18 0 7 + d ∧ M.1 18 0 7 + d ≤ 2147483647 by omega) ⟨_, rfl, fun cl1 => ⟨by omega, fun c => ⟨by omega, fun c2 => ⟨rfl, ?_⟩, fun c2 => ⟨by omega, fun c3 => ⟨rfl, ?_⟩, fun c3 => ⟨rfl, ?_⟩⟩⟩, fun c => by omega⟩⟩
      · rw [if_pos (by omega)] at h; exact h
      · rw [if_neg (by omega), show (M.1 18 0 7 + d - M.1 18 0 7).toNat = d by omega, ← hv (by omega)] at h; exact h
      · rw [if_pos (by omega)] at h; exact h
    | succ f ih =>
      intro d cl v hf h0 hv hd
      have hr := tAt_r hk (M.1 18 0 7 + d)
      have fin : ¬ (48 ≤ tAt T n (M.1 18 0 7 + d) ∧ tAt T n (M.1 18 0 7 + d) ≤ 57) → ∀ cl1 : Bool, (zr d ∧ zr 1) ∧ (((d : Int) < 1 → zq R (.inl (some (zI (-1)))) (z_w M 18 0 7 (M.1 18 0 7 + d)) cl1 0) ∧ (¬ ((d : Int) < 1) → (zr d ∧ zr most) ∧ (((d : Int) ≤ most → zq R (.inl (some (zI v))) (z_w M 18 0 7 (M.1 18 0 7 + d)) cl1 0) ∧ (¬ ((d : Int) ≤ most) → zq R (.inl (some (zI (-1)))) (z_w M 18 0 7 (M.1 18 0 7 + d)) cl1 0)))) := by
        intro hne cl1
        have h5 : tDg T n (M.1 18 0 7) = M.1 18 0 7 + d := by rw [← hd, tDg_ne (by omega) hne]
        rw [mNm, h5] at h
        refine ⟨by omega, fun c2 => ⟨rfl, ?_⟩, fun c2 => ⟨by omega, fun c3 => ⟨rfl, ?_⟩, fun c3 => ⟨rfl, ?_⟩⟩⟩
        · rw [if_pos (by omega)] at h; exact h
        · rw [if_neg (by omega), show (M.1 18 0 7 + d - M.1 18 0 7).toNat = d by omega, ← hv (by omega)] at h; exact h
        · rw [if_pos (by omega)] at h; exact h
      refine g53_4 ?_
      refine c51 (T := T) (n := n) (i := M.1 18 0 7 + d) hT hk (show 0 ≤ M.1 18 0 7 + d ∧ M.1 18 0 7 + d ≤ 2147483647 by omega) ⟨_, rfl, fun cl1 => ⟨by omega, fun c => fin (by omega) cl1, fun c => ?_⟩⟩
      refine c51 (T := T) (n := n) (i := M.1 18 0 7 + d) hT hk (show 0 ≤ M.1 18 0 7 + d ∧ M.1 18 0 7 + d ≤ 2147483647 by omega) ⟨_, rfl, fun cl2 => ⟨by omega, fun c2 => fin (by omega) cl2, fun c2 => ?_⟩⟩
      have h2 := tAt_pos (T := T) (n := n) (i := M.1 18 0 7 + d) (by omega)
      have e1 : M.1 18 0 7 + ((d + 1 : Nat) : Int) = M.1 18 0 7 + d + 1 := by omega
      have e2 : ((d + 1 : Nat) : Int) = (d : Int) + 1 := by omega
      refine ⟨by omega, fun c3 => ?_, fun c3 => ?_⟩
      · have h3 := ih (d + 1) false v (by omega) (by omega) (by omega) (by rw [e1, ← tDg_eq (by omega) (by omega)]; exact hd)
        rw [e1, e2] at h3
        rw [z_w_w]
        exact h3
      · refine c51 (T := T) (n := n) (i := M.1 18 0 7 + d) hT hk (show 0 ≤ M.1 18 0 7 + d ∧ M.1 18 0 7 + d ≤ 2147483647 by omega) ⟨_, rfl, fun cl3 => ?_⟩
        have h3 := ih (d + 1) false (10 * v + tAt T n (M.1 18 0 7 + d) - 48) (by omega) (by omega) (by
          intro _
          rw [tNm, hv (by omega), tAt, if_pos (by omega)]; omega) (by rw [e1, ← tDg_eq (by omega) (by omega)]; exact hd)
        rw [e1, e2] at h3
        rw [z_w_w]
        exact h3
  have h3 := key _ 0 true 0 (Nat.le_refl _) (by omega) (by intro _; rfl) (by rw [show M.1 18 0 7 + ((0 : Nat) : Int) = M.1 18 0 7 by omega])
  rw [show M.1 18 0 7 + ((0 : Nat) : Int) = M.1 18 0 7 by omega, z_w_id] at h3
  exact h3
-- exclusiveOrBefore, endsAt
theorem c15 {M : zM} {T : Nat → Int} {n : Int} {l : Nat} {R : Option zV → zM → Prop} (hT : cTx M T n) (hk : okT T n) (hi : (l : Int) ≤ n) (h : R (some (zI (tXr T l))) M) : zF 15 [zR 1 0, zI l] M R := by
  have hn := hT.1
  have hk1 := hk.1
  have hk2 := hk.2.1
  refine g15_0 ?_
  have key : ∀ (f : Nat) (j : Nat) (cl : Bool), l - j ≤ f → j ≤ l → zT 15 (4, [some (zR 1 0), some (zI l), some (zI (tXr T j)), some (zI j)], [], M, cl) (zq R) := by
    intro f
    induction f with
    | zero =>
      intro j cl hf h0
      refine g15_4 ⟨by omega, fun c => ⟨rfl, ?_⟩, fun c => by omega⟩
      rw [show j = l by omega]; exact h
    | succ f ih =>
      intro j cl hf h0
      have hx := tXr_r hk j (by omega)
      have hr := tAt_r hk j
      refine g15_4 ⟨by omega, fun c => ⟨rfl, ?_⟩, fun c => ?_⟩
      · rw [show j = l by omega]; exact h
      · refine c8 hT hk (by omega) ⟨_, rfl, fun cl1 => ⟨by omega, ?_⟩⟩
        have h3 := ih (j + 1) cl1 (by omega) (by omega)
        rw [tXr] at h3
        rw [tAt, if_pos (by omega), Int.toNat_natCast]
        exact h3
  exact key _ 0 true (Nat.le_refl _) (by omega)
theorem c14 {M : zM} {T : Nat → Int} {n i : Int} {R : Option zV → zM → Prop} (hT : cTx M T n) (hk : okT T n) (hi : zr i) (h : R (some (zI (if i = n then 1 else 0))) M) : zF 14 [zR 1 0, zI i] M R := by
  have hn := hT.1
  have hk1 := hk.1
  have hk2 := hk.2.1
  refine g14_0 ⟨by omega, fun c => ⟨rfl, ?_⟩, fun c => ⟨rfl, ?_⟩⟩
  · rw [if_neg (by omega)] at h; exact h
  · rw [if_pos (by omega)] at h; exact h
