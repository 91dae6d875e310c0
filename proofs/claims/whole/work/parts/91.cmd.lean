-- Commands: which letters are told, and how often. (own work)
def nOf (l : Nat → Int) (c : Int) : Nat → Int
  | 0 => 0
  | k + 1 => nOf l c k + (if 2 ≤ k ∧ l k = c then 1 else 0)
def tdOf (l v : Nat → Int) (c d : Int) : Nat → Int
  | 0 => d
  | k + 1 => if 2 ≤ k ∧ l k = c then v k else tdOf l v c d k
def may (g c : Int) : Prop := (g = 1 ∧ (c = 70 ∨ c = 88 ∨ c = 89 ∨ c = 69)) ∨ (g = 92 ∧ (c = 88 ∨ c = 89 ∨ c = 69)) ∨ (g = 4 ∧ c = 80)
def known (g : Int) : Prop := g = 1 ∨ g = 4 ∨ g = 90 ∨ g = 91 ∨ g = 92
def numOk (l v : Nat → Int) (W : Nat) : Prop := (v 1 = 4 → ¬ nOf l 80 W = 0) ∧ (¬ nOf l 80 W = 0 → 1 ≤ tdOf l v 80 0 W ∧ tdOf l v 80 0 W ≤ 200) ∧ (¬ nOf l 70 W = 0 → 1 ≤ tdOf l v 70 0 W ∧ tdOf l v 70 0 W ≤ 1000)
def lOk (l v : Nat → Int) (k : Nat) : Prop := (∀ i, 2 ≤ i → i < k → may (v 1) (l i)) ∧ (∀ c, nOf l c k ≤ 1)
def cOk (l v : Nat → Int) (W : Nat) : Prop := 2 ≤ W ∧ l 1 = 71 ∧ lOk l v W ∧ known (v 1) ∧ numOk l v W
theorem nOf_r (l : Nat → Int) (c : Int) : ∀ k, 0 ≤ nOf l c k ∧ nOf l c k ≤ k
  | 0 => by simp only [nOf]; omega
  | k + 1 => by have := nOf_r l c k; simp only [nOf]; split <;> omega
theorem nOf_mono (l : Nat → Int) (c : Int) {j : Nat} : ∀ k, j ≤ k → nOf l c j ≤ nOf l c k
  | 0, h => by rw [show j = 0 by omega]; exact Int.le_refl _
  | k + 1, h => by
    by_cases e : j = k + 1
    · rw [e]; exact Int.le_refl _
    · have := nOf_mono l c (j := j) k (by omega)
      simp only [nOf]; split <;> omega
theorem tdOf_d {l v : Nat → Int} {c d d' : Int} : ∀ {k : Nat}, ¬ nOf l c k = 0 → tdOf l v c d k = tdOf l v c d' k
  | 0, h => absurd rfl h
  | k + 1, h => by
    simp only [nOf, tdOf] at h ⊢
    by_cases e : 2 ≤ k ∧ l k = c
    · rw [if_pos e, if_pos e]
    · rw [if_neg e, if_neg e]
      rw [if_neg e] at h
      exact tdOf_d (by omega)
theorem tdOf_0 {l v : Nat → Int} {c d : Int} : ∀ {k : Nat}, nOf l c k = 0 → tdOf l v c d k = d
  | 0, _ => rfl
  | k + 1, h => by
    have := nOf_r l c k
    simp only [nOf, tdOf] at h ⊢
    by_cases e : 2 ≤ k ∧ l k = c
    · rw [if_pos e] at h; omega
    · rw [if_neg e] at h ⊢; exact tdOf_0 (by omega)
theorem tdOf_r {l v : Nat → Int} {c d a b : Int} (hd : a ≤ d ∧ d ≤ b) : ∀ {k : Nat}, (∀ i, i < k → a ≤ v i ∧ v i ≤ b) → a ≤ tdOf l v c d k ∧ tdOf l v c d k ≤ b
  | 0, _ => hd
  | k + 1, h => by
    simp only [tdOf]
    split
    · exact h k (by omega)
    · exact tdOf_r hd (fun i hi => h i (by omega))
-- what the class has noted of the words below k
def cmdT (M : zM) (l v : Nat → Int) (k : Nat) : Prop := ∃ m : Nat, M.1 6 0 1 = (m : Int) ∧ m < 2 ^ 26 ∧ (∀ b, b < 26 → (m.testBit b = true ↔ ¬ nOf l (65 + b) k = 0)) ∧ (∀ b : Nat, b < 26 → ¬ nOf l (65 + b) k = 0 → M.1 7 0 b = tdOf l v (65 + b) 0 k)
def wds (l v : Nat → Int) (W : Nat) : Prop := W ≤ 40 ∧ ∀ w, w < W → (65 ≤ l w ∧ l w ≤ 90) ∧ (-99999 ≤ v w ∧ v w ≤ 99999)
def cW (M : zM) (l v : Nat → Int) (W : Nat) : Prop := M.1 3 0 2 = (W : Int) ∧ ∀ w, w < W → M.1 4 0 w = l w ∧ M.1 5 0 w = v w
def mW (M : zM) (l v : Nat → Int) (W : Nat) : Prop := M.1 18 0 4 = (W : Int) ∧ ∀ w, w < W → M.1 20 0 w = l w ∧ M.1 21 0 w = v w
theorem c19 {M : zM} {c : Int} {R : Option zV → zM → Prop} (hg : zr (M.1 6 0 2)) (hc : zr c) (h1 : may (M.1 6 0 2) c → R (some (zI 1)) M) (h0 : ¬ may (M.1 6 0 2) c → R (some (zI 0)) M) : zF 19 [zR 6 0, zI c] M R := by
  have hi : z_idx c = -1 ∨ (0 ≤ z_idx c ∧ z_idx c ≤ 2) := by unfold z_idx; split <;> (try split) <;> (try split) <;> omega
  have hi2 : z_idx c < 0 ↔ ¬ (c = 88 ∨ c = 89 ∨ c = 69) := by unfold z_idx; split <;> (try split) <;> (try split) <;> omega
  unfold may at h1 h0
  refine g19_0 ⟨hg, fun e => ⟨by omega, fun c1 => ⟨rfl, h1 (by omega)⟩, fun c1 => ⟨hc, by omega, fun c2 => ⟨rfl, h0 (by omega)⟩, fun c2 => ⟨rfl, h1 (by omega)⟩⟩⟩, fun e => ⟨by omega, fun c1 => ⟨rfl, h0 (by omega)⟩, fun c1 => ⟨rfl, h1 (by omega)⟩⟩, fun e => ⟨hc, by omega, fun c2 => ⟨rfl, h0 (by omega)⟩, fun c2 => ⟨rfl, h1 (by omega)⟩⟩, fun e1 e2 e3 => ⟨rfl, h0 (by omega)⟩⟩
theorem c20 {M : zM} {l v : Nat → Int} {k : Nat} {c : Int} {R : Option zV → zM → Prop} (hm : cmdT M l v k) (hc : 65 ≤ c ∧ c ≤ 90) (h : R (some (zI (if nOf l c k = 0 then 0 else 1))) M) : zF 20 [zR 6 0, zI c] M R := by
  obtain ⟨m, e, hlt, hb, _⟩ := hm
  have hb1 := hb (c - 65).toNat (by omega)
  rw [show (65 : Int) + ((c - 65).toNat : Int) = c by omega, Nat.testBit_eq_decide_div_mod_eq, decide_eq_true_eq] at hb1
  have e2 : M.1 6 0 1 / 2 ^ (c - 65).toNat % 2 = ((m / 2 ^ (c - 65).toNat % 2 : Nat) : Int) := by
    rw [e]; simp
  have h26 : (2 : Nat) ^ 26 = 67108864 := by decide
  refine g20_0 ⟨by omega, ?_⟩
  rw [e2]
  refine ⟨by omega, fun c1 => ⟨rfl, ?_⟩, fun c1 => ⟨rfl, ?_⟩⟩
  · by_cases hn : nOf l c k = 0
    · rw [if_pos hn] at h; exact h
    · have := hb1.2 hn; omega
  · have hn := hb1.1 (by omega)
    rw [if_neg hn] at h; exact h
theorem c21 {M : zM} {R : Option zV → zM → Prop} (hg : zr (M.1 6 0 2)) (h1 : known (M.1 6 0 2) → R (some (zI 1)) M) (h0 : ¬ known (M.1 6 0 2) → R (some (zI 0)) M) : zF 21 [zR 6 0] M R := by
  unfold known at h1 h0
  exact g21_0 ⟨by omega, fun c => ⟨rfl, h1 (by omega)⟩, fun c => ⟨by omega, fun c => ⟨rfl, h1 (by omega)⟩, fun c => ⟨by omega, fun c => ⟨rfl, h1 (by omega)⟩, fun c => ⟨by omega, fun c => ⟨rfl, h1 (by omega)⟩, fun c => ⟨by omega, fun c => ⟨rfl, h0 (by omega)⟩, fun c => ⟨rfl, h1 (by omega)⟩⟩⟩⟩⟩⟩
theorem c22 {M : zM} {c : Int} {R : Option zV → zM → Prop} (hc : 65 ≤ c ∧ c ≤ 90) (h : R (some (zI (M.1 7 0 (c - 65).toNat))) M) : zF 22 [zR 6 0, zI c] M R := g22_0 ⟨by omega, rfl, h⟩
theorem cmdT_v {M : zM} {l v : Nat → Int} {k : Nat} {c : Int} (hm : cmdT M l v k) (hc : 65 ≤ c ∧ c ≤ 90) (hn : ¬ nOf l c k = 0) : M.1 7 0 (c - 65).toNat = tdOf l v c 0 k := by
  obtain ⟨m, _, _, _, hv⟩ := hm
  have := hv (c - 65).toNat (by omega)
  rw [show (65 : Int) + ((c - 65).toNat : Int) = c by omega] at this
  exact this hn
theorem c23 {M : zM} {l v : Nat → Int} {k : Nat} {c most : Int} {R : Option zV → zM → Prop} (hm : cmdT M l v k) (hv : ∀ i, i < k → -99999 ≤ v i ∧ v i ≤ 99999) (hc : 65 ≤ c ∧ c ≤ 90) (hm2 : zr most)
    (h1 : (¬ nOf l c k = 0 → 1 ≤ tdOf l v c 0 k ∧ tdOf l v c 0 k ≤ most) → R (some (zI 1)) M) (h0 : ¬ (¬ nOf l c k = 0 → 1 ≤ tdOf l v c 0 k ∧ tdOf l v c 0 k ≤ most) → R (some (zI 0)) M) : zF 23 [zR 6 0, zI c, zI most] M R := by
  have hr := tdOf_r (l := l) (c := c) (d := 0) (a := -99999) (b := 99999) (by omega) hv
  refine g23_0 (c20 hm hc ⟨_, rfl, fun _ => ⟨by split <;> omega, fun c1 => ⟨rfl, h1 ?_⟩, fun c1 => ?_⟩⟩)
  · intro hn; rw [if_neg hn] at c1; omega
  · have hn : ¬ nOf l c k = 0 := by
      intro hq; rw [if_pos hq] at c1; exact absurd rfl c1
    have ev := cmdT_v hm hc hn
    refine c22 hc ⟨_, rfl, fun _ => ?_⟩
    rw [ev]
    refine ⟨by omega, fun c2 => ⟨rfl, h0 fun q => by have := q hn; omega⟩, fun c2 => c22 hc ⟨_, rfl, fun _ => ?_⟩⟩
    rw [ev]
    exact ⟨by omega, fun c3 => ⟨rfl, h0 fun q => by have := q hn; omega⟩, fun c3 => ⟨rfl, h1 fun _ => by omega⟩⟩
theorem c24 {M : zM} {l v : Nat → Int} {k : Nat} {R : Option zV → zM → Prop} (hm : cmdT M l v k) (hv : ∀ i, i < k → -99999 ≤ v i ∧ v i ≤ 99999) (hg : M.1 6 0 2 = v 1) (hg2 : zr (v 1))
    (h1 : numOk l v k → R (some (zI 1)) M) (h0 : ¬ numOk l v k → R (some (zI 0)) M) : zF 24 [zR 6 0] M R := by
  unfold numOk at h1 h0
  have two : (v 1 = 4 → ¬ nOf l 80 k = 0) → zF 23 [zR 6 0, zI 80, zI 200] M (fun v M1 => ∃ r1 : Int, v = some (zI r1) ∧ ∀ cl1 : Bool, (zr r1) ∧ ((r1 = 0 → zq R (.inl (some (zI 0))) M1 cl1 0) ∧ (¬ (r1 = 0) → zF 23 [zR 6 0, zI 70, zI 1000] M1 (fun v M2 => ∃ r2 : Int, v = some (zI r2) ∧ ∀ cl2 : Bool, (zr r2) ∧ ((r2 = 0 → zq R (.inl (some (zI 0))) M2 cl2 0) ∧ (¬ (r2 = 0) → zq R (.inl (some (zI 1))) M2 cl2 0)))))) := by
    intro h4
    refine c23 hm hv (by omega) (by omega) (fun hp => ⟨1, rfl, fun _ => ⟨by omega, fun c => by omega, fun _ => ?_⟩⟩) (fun hp => ⟨0, rfl, fun _ => ⟨by omega, fun _ => ⟨rfl, h0 fun q => hp q.2.1⟩, fun c => absurd rfl c⟩⟩)
    exact c23 hm hv (by omega) (by omega) (fun hf => ⟨1, rfl, fun _ => ⟨by omega, fun c => by omega, fun _ => ⟨rfl, h1 ⟨h4, hp, hf⟩⟩⟩⟩) (fun hf => ⟨0, rfl, fun _ => ⟨by omega, fun _ => ⟨rfl, h0 fun q => hf q.2.2⟩, fun c => absurd rfl c⟩⟩)
  refine g24_0 ?_
  rw [hg]
  refine ⟨by omega, fun c => two (fun h => absurd h c), fun c => c20 hm (by omega) ⟨_, rfl, fun _ => ⟨by split <;> omega, fun c1 => two (fun _ hq => ?_), fun c1 => ⟨rfl, h0 fun q => ?_⟩⟩⟩⟩
  · rw [if_pos hq] at c1; exact absurd rfl c1
  · rw [if_neg (q.1 c)] at c1; omega
abbrev p25 : Nat → Nat → Prop := fun k s => k = 7 ∨ (k = 6 ∧ (s = 1 ∨ s = 2))
theorem cW_fr {P PL : Nat → Nat → Prop} {M M' : zM} {l v : Nat → Int} {W : Nat} (h : zfr P PL M M') (h1 : ¬ P 3 2) (h2 : ∀ i, ¬ P 4 i) (h3 : ∀ i, ¬ P 5 i) (hT : cW M l v W) : cW M' l v W :=
  ⟨by rw [h.1 3 0 2 h1]; exact hT.1, fun i hi => by rw [h.1 4 0 i (h2 i), h.1 5 0 i (h3 i)]; exact hT.2 i hi⟩
theorem c25 {M : zM} {l v : Nat → Int} {W : Nat} {R : Option zV → zM → Prop} (hT : cW M l v W) (hw : wds l v W) (hW : 1 ≤ W)
    (h1 : cOk l v W → ∀ M', zfr p25 zno M M' → M'.1 6 0 2 = v 1 → cmdT M' l v W → R (some (zI 1)) M')
    (h0 : ¬ cOk l v W → ∀ M', zfr p25 zno M M' → R (some (zI 0)) M') : zF 25 [zR 6 0, zR 3 0] M R := by
  have hn := hT.1
  have h40 := hw.1
  have hf1 : ∀ x, zfr p25 zno M (z_w M 6 0 1 x) := fun x => (zfr.refl _ _ _).w 6 0 1 _ (Or.inr ⟨rfl, Or.inl rfl⟩)
  refine g25_0 ?_
  rw [hn]
  refine ⟨by omega, fun c => ⟨rfl, h0 (fun q => by have := q.1; omega) _ (hf1 0)⟩, fun c => ?_⟩
  have hl1 := hT.2 1 (by omega)
  have hr1 := hw.2 1 (by omega)
  rw [hl1.1, hl1.2]
  refine ⟨by omega, fun c1 => ?_, fun c1 => ⟨rfl, h0 (fun q => c1 q.2.1) _ (hf1 0)⟩⟩
  have hf2 : zfr p25 zno M (z_w (z_w M 6 0 1 0) 6 0 2 (v 1)) := (hf1 0).w 6 0 2 _ (Or.inr ⟨rfl, Or.inr rfl⟩)
  have loop : ∀ (f k : Nat) (u : Option zV) (M' : zM) (cl : Bool), W - k ≤ f → 2 ≤ k → k ≤ W → zfr p25 zno M M' → M'.1 6 0 2 = v 1 → cmdT M' l v k → lOk l v k → zT 25 (38, [some (zR 6 0), some (zR 3 0), some (zI k), u], [], M', cl) (zq R) := by
    intro f
    induction f with
    | zero =>
      intro k u M' cl hf h2 hkW hfr hg hm hl
      have hT' := cW_fr hfr (by omega) (by omega) (by omega) hT
      obtain rfl : k = W := by omega
      refine g25_38 ?_
      rw [hT'.1]
      refine ⟨by omega, fun _ => c21 (by rw [hg]; omega) (fun hk => ⟨1, rfl, fun _ => ⟨by omega, fun c => by omega, fun _ => ?_⟩⟩) (fun hk => ⟨0, rfl, fun _ => ⟨by omega, fun _ => ⟨rfl, h0 (fun q => hk (by rw [hg]; exact q.2.2.2.1)) _ hfr⟩, fun c => absurd rfl c⟩⟩), fun c => by omega⟩
      exact c24 hm (fun i hi => (hw.2 i hi).2) hg (by omega) (fun hq => ⟨1, rfl, fun _ => ⟨by omega, fun c => by omega, fun _ => ⟨rfl, h1 ⟨h2, c1, hl, by rw [← hg]; exact hk, hq⟩ _ hfr hg hm⟩⟩⟩) (fun hq => ⟨0, rfl, fun _ => ⟨by omega, fun _ => ⟨rfl, h0 (fun q => hq q.2.2.2.2) _ hfr⟩, fun c => absurd rfl c⟩⟩)
    | succ f ih =>
      intro k u M' cl hf h2 hkW hfr hg hm hl
      have hT' := cW_fr hfr (by omega) (by omega) (by omega) hT
      by_cases e : k = W
      · subst e
        refine g25_38 ?_
        rw [hT'.1]
        refine ⟨by omega, fun _ => c21 (by rw [hg]; omega) (fun hk => ⟨1, rfl, fun _ => ⟨by omega, fun c => by omega, fun _ => ?_⟩⟩) (fun hk => ⟨0, rfl, fun _ => ⟨by omega, fun _ => ⟨rfl, h0 (fun q => hk (by rw [hg]; exact q.2.2.2.1)) _ hfr⟩, fun c => absurd rfl c⟩⟩), fun c => by omega⟩
        exact c24 hm (fun i hi => (hw.2 i hi).2) hg (by omega) (fun hq => ⟨1, rfl, fun _ => ⟨by omega, fun c => by omega, fun _ => ⟨rfl, h1 ⟨h2, c1, hl, by rw [← hg]; exact hk, hq⟩ _ hfr hg hm⟩⟩⟩) (fun hq => ⟨0, rfl, fun _ => ⟨by omega, fun _ => ⟨rfl, h0 (fun q => hq q.2.2.2.2) _ hfr⟩, fun c => absurd rfl c⟩⟩)
      · have hlk := hT'.2 k (by omega)
        have hrk := hw.2 k (by omega)
        refine g25_38 ?_
        rw [hT'.1, Int.toNat_natCast, hlk.1]
        refine ⟨by omega, fun c => by omega, fun _ => ⟨by omega, c19 (by rw [hg]; omega) (by omega) (fun hmay => ⟨1, rfl, fun _ => ⟨by omega, fun c => by omega, fun _ => ?_⟩⟩) (fun hmay => ⟨0, rfl, fun _ => ⟨by omega, fun _ => ⟨rfl, h0 (fun q => hmay (by rw [hg]; exact q.2.2.1.1 k h2 (by omega))) _ hfr⟩, fun c => absurd rfl c⟩⟩)⟩⟩
        refine c20 hm (by omega) ⟨_, rfl, fun _ => ⟨by split <;> omega, fun c3 => ?_, fun c3 => ⟨rfl, h0 (fun q => ?_) _ hfr⟩⟩⟩
        · have hn0 : nOf l (l k) k = 0 := by
            by_cases hq : nOf l (l k) k = 0
            · exact hq
            · rw [if_neg hq] at c3; omega
          obtain ⟨m, em, hlt, hb, hv⟩ := hm
          have h26 : (2 : Nat) ^ 26 = 67108864 := by decide
          have hpow : (1 * 2 ^ (l k - 65).toNat : Int) = ((2 ^ (l k - 65).toNat : Nat) : Int) := by simp
          have hplt : 2 ^ (l k - 65).toNat < 2 ^ 26 := Nat.pow_lt_pow_right (by decide) (by omega)
          rw [em, hpow, Int.toNat_natCast, Int.toNat_natCast, hlk.2]
          refine ⟨by omega, ⟨by omega, Int.natCast_nonneg _, by omega⟩, by omega, by omega, ?_⟩
          have h3 := ih (k + 1) (some (zI (l k))) (z_w (z_w M' 6 0 1 (Int.ofNat (m ||| 2 ^ (l k - 65).toNat))) 7 0 (l k - 65).toNat (v k)) false (by omega) (by omega) (by omega) ((hfr.w 6 0 1 _ (Or.inr ⟨rfl, Or.inl rfl⟩)).w 7 0 _ _ (Or.inl rfl)) (by simp only [z_w_get]; simp [hg]) (by
            refine ⟨m ||| 2 ^ (l k - 65).toNat, by simp only [z_w_get]; simp, Nat.or_lt_two_pow hlt hplt, fun b hb26 => ?_, fun b hb26 hnb => ?_⟩
            · rw [Nat.testBit_or, Nat.testBit_two_pow, Bool.or_eq_true, hb b hb26, decide_eq_true_eq]
              simp only [nOf]
              have hr := nOf_r l (65 + b) k
              by_cases hbk : (l k - 65).toNat = b
              · rw [if_pos (by omega)]
                constructor
                · intro _; omega
                · intro _; exact Or.inr hbk
              · rw [if_neg (by omega), Int.add_zero]
                constructor
                · rintro (h | h)
                  · exact h
                  · exact absurd h hbk
                · exact Or.inl
            · simp only [nOf] at hnb
              simp only [z_w_get, tdOf]
              by_cases hbk : (l k - 65).toNat = b
              · rw [if_pos ⟨trivial, trivial, hbk.symm⟩, if_pos (by omega)]
              · rw [if_neg (by omega), if_neg (by omega), if_neg (by omega)]
                rw [if_neg (by omega), Int.add_zero] at hnb
                exact hv b hb26 hnb) (by
            refine ⟨fun i hi1 hi2 => ?_, fun cc => ?_⟩
            · by_cases hik : i = k
              · subst hik; rw [← hg]; exact hmay
              · exact hl.1 i hi1 (by omega)
            · simp only [nOf]
              have hr := nOf_r l cc k
              have := hl.2 cc
              by_cases hck : l k = cc
              · subst hck; rw [hn0]; split <;> omega
              · rw [if_neg (by omega)]; omega)
          rw [show ((k + 1 : Nat) : Int) = (k : Int) + 1 by omega] at h3
          exact h3
        · have hn0 : ¬ nOf l (l k) k = 0 := by
            intro hq; rw [if_pos hq] at c3; exact absurd rfl c3
          have h5 := q.2.2.1.2 (l k)
          have h6 := nOf_mono l (l k) (j := k + 1) W (by omega)
          have hr := nOf_r l (l k) k
          rw [nOf, if_pos ⟨h2, rfl⟩] at h6
          omega
  refine loop W 2 none _ false (by omega) (Nat.le_refl _) (by omega) hf2 rfl ⟨0, rfl, by decide, fun b hb => ?_, fun b hb hnb => ?_⟩ ⟨fun i h1 h2 => by omega, fun c => ?_⟩
  · simp [nOf]
  · simp [nOf] at hnb
  · simp [nOf]
