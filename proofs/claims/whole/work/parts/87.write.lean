-- what a run leaves alone; writing (own work)
def zfr (P PL : Nat → Nat → Prop) (M M' : zM) : Prop := (∀ k j s, ¬ P k s → M'.1 k j s = M.1 k j s) ∧ (∀ k j s, ¬ PL k s → M'.2.1 k j s = M.2.1 k j s) ∧ M'.2.2 = M.2.2
abbrev zno : Nat → Nat → Prop := fun _ _ => False
theorem zfr.refl (P PL : Nat → Nat → Prop) (M : zM) : zfr P PL M M := ⟨fun _ _ _ _ => rfl, fun _ _ _ _ => rfl, rfl⟩
theorem zfr.trans {P PL : Nat → Nat → Prop} {M M' M'' : zM} (h : zfr P PL M M') (h' : zfr P PL M' M'') : zfr P PL M M'' :=
  ⟨fun k j s hp => (h'.1 k j s hp).trans (h.1 k j s hp), fun k j s hp => (h'.2.1 k j s hp).trans (h.2.1 k j s hp), h'.2.2.trans h.2.2⟩
theorem zfr.mono {P PL P' PL' : Nat → Nat → Prop} {M M' : zM} (h : zfr P PL M M') (hP : ∀ k s, P k s → P' k s) (hL : ∀ k s, PL k s → PL' k s) : zfr P' PL' M M' :=
  ⟨fun k j s hp => h.1 k j s fun q => hp (hP k s q), fun k j s hp => h.2.1 k j s fun q => hp (hL k s q), h.2.2⟩
theorem zfr.w {P PL : Nat → Nat → Prop} {M M' : zM} (h : zfr P PL M M') (k j s : Nat) (v : Int) (hp : P k s) : zfr P PL M (z_w M' k j s v) := by
  refine ⟨fun a b c hq => ?_, h.2.1, h.2.2⟩
  rw [z_w_get, if_neg, h.1 a b c hq]
  rintro ⟨rfl, rfl, rfl⟩
  exact hq hp
theorem zfr.wl {P PL : Nat → Nat → Prop} {M M' : zM} (h : zfr P PL M M') (k j s : Nat) (v : Int) (hp : PL k s) : zfr P PL M (z_wl M' k j s v) := by
  refine ⟨h.1, fun a b c hq => ?_, h.2.2⟩
  rw [z_wl_get, if_neg, h.2.1 a b c hq]
  rintro ⟨rfl, rfl, rfl⟩
  exact hq hp
def byt (c : Int) (k : Nat) : Int := c % 18446744073709551616 / 2 ^ (8 * k) % 256
def wN (b : Nat → Int) : Nat → Int
  | 0 => 0
  | k + 1 => wN b k + (if b k = 0 then 0 else 1)
def wT (b : Nat → Int) (T : Nat → Int) (n : Int) : Nat → Nat → Int
  | 0 => T
  | k + 1 => fun i => if ¬ b k = 0 ∧ (i : Int) = n + wN b k then b k else wT b T n k i
def wG (b : Nat → Int) (k : Nat) : Prop := b k = 0 ∨ (32 ≤ b k ∧ b k ≤ 126)
def wOk (b : Nat → Int) (n : Int) : Prop := (∀ k, k < 8 → wG b k) ∧ n + wN b 8 ≤ 80
theorem byt_r (c : Int) (k : Nat) : 0 ≤ byt c k ∧ byt c k < 256 := by unfold byt; omega
theorem byt_e (c : Int) (k : Nat) (x : Int) (h : x = 8 * (k : Int)) : c % 18446744073709551616 / 2 ^ x.toNat % 256 = byt c k := by
  subst h
  unfold byt
  rw [show (8 * (k : Int)).toNat = 8 * k by omega]
theorem wN_le (b : Nat → Int) : ∀ k, 0 ≤ wN b k ∧ wN b k ≤ k
  | 0 => by simp only [wN]; omega
  | k + 1 => by have := wN_le b k; simp only [wN]; split <;> omega
theorem wN_mono (b : Nat → Int) : ∀ (f k : Nat), wN b k ≤ wN b (k + f)
  | 0, k => by simp
  | f + 1, k => by
    have := wN_mono b f k
    rw [show k + (f + 1) = (k + f) + 1 by omega, wN]
    split <;> omega
theorem wN_mono' (b : Nat → Int) {k l : Nat} (h : k ≤ l) : wN b k ≤ wN b l := by
  have := wN_mono b (l - k) k
  rwa [show k + (l - k) = l by omega] at this
theorem wT_lt (b : Nat → Int) (T : Nat → Int) (n : Int) : ∀ (k i : Nat), (i : Int) < n → wT b T n k i = T i
  | 0, _, _ => rfl
  | k + 1, i, h => by
    have h1 := wT_lt b T n k i h
    have h2 := wN_le b k
    simp only [wT]
    rw [if_neg (by omega), h1]
theorem wT_ok {b : Nat → Int} {T : Nat → Int} {n : Int} (hk : okT T n) (hb : ∀ k, k < 8 → wG b k) : ∀ k : Nat, k ≤ 8 → ∀ i : Nat, (i : Int) < n + wN b k → 32 ≤ wT b T n k i ∧ wT b T n k i ≤ 126
  | 0, _, i, hi => hk.2.2 i (by simp only [wN] at hi; omega)
  | k + 1, h8, i, hi => by
    have ih := wT_ok hk hb k (by omega) i
    have hg := hb k (by omega)
    unfold wG at hg
    simp only [wT, wN] at hi ⊢
    split at hi <;> split <;> first | omega | (apply ih; omega)
abbrev p1 : Nat → Nat → Prop := fun k s => k = 2 ∨ (k = 1 ∧ s = 1)
theorem c1 {M : zM} {T : Nat → Int} {n c : Int} {R : Option zV → zM → Prop} (hT : cTx M T n) (hk : okT T n)
    (h1 : wOk (byt c) n → ∀ M', zfr p1 zno M M' → cTx M' (wT (byt c) T n 8) (n + wN (byt c) 8) → R (some (zI 1)) M')
    (h0 : ¬ wOk (byt c) n → ∀ M', zfr p1 zno M M' → cTx M' T n → R (some (zI 0)) M') : zF 1 [zR 1 0, zJ c] M R := by
  have hn := hT.1
  have hk1 := hk.1
  have hk2 := hk.2.1
  refine g1_0 ?_
  have key : ∀ (f k : Nat) (u : Option zV) (cl : Bool) (M' : zM), k + f = 8 → zfr p1 zno M M' → M'.1 1 0 1 = n → (∀ i : Nat, (i : Int) < n + wN (byt c) k → M'.1 2 0 i = wT (byt c) T n k i) → (∀ q, q < k → wG (byt c) q) → n + wN (byt c) k ≤ 80 →
      zT 1 (8, [some (zR 1 0), some (zJ c), none, some (zI (n + wN (byt c) k)), some (zI (8 * k)), u], [], M', cl) (zq R) := by
    intro f
    induction f with
    | zero =>
      intro k u cl M' hf hfr hl hc hg hle
      obtain rfl : k = 8 := by omega
      have hw := wN_le (byt c) 8
      refine g1_8 ⟨by omega, fun _ => ⟨rfl, h1 ⟨hg, hle⟩ _ (hfr.w 1 0 1 _ (Or.inr ⟨rfl, rfl⟩)) ⟨rfl, ?_⟩⟩, fun c => by omega⟩
      exact hc
    | succ f ih =>
      intro k u cl M' hf hfr hl hc hg hle
      have hb := byt_r c k
      have hw := wN_le (byt c) k
      have hfail : ¬ wOk (byt c) n → R (some (zI 0)) M' := fun hno => h0 hno M' hfr ⟨hl, fun i hi => by rw [hc i (by omega), wT_lt _ _ _ _ _ hi]⟩
      have e8 : 8 * ((k + 1 : Nat) : Int) = 8 * (k : Int) + 8 := by omega
      refine g1_8 ?_
      rw [byt_e c k _ rfl]
      refine ⟨by omega, fun _ => by omega, fun _ => ⟨by omega, by omega, fun c1 => ⟨by omega, fun c2 => ⟨rfl, hfail ?_⟩, fun c2 => ⟨by omega, fun c3 => ⟨rfl, hfail ?_⟩, fun c3 => ⟨by omega, fun c4 => ⟨by omega, by omega, ?_⟩, fun c4 => ⟨rfl, hfail ?_⟩⟩⟩⟩, fun c1 => ?_⟩⟩
      · intro hk; have := hk.1 k (by omega); unfold wG at this; omega
      · intro hk; have := hk.1 k (by omega); unfold wG at this; omega
      · have h3 := ih (k + 1) (some (zI (byt c k))) false (z_w M' 2 0 (n + wN (byt c) k).toNat (byt c k)) (by omega) (hfr.w 2 0 _ _ (Or.inl rfl)) (by rw [z_w_get]; simp [hl]) (by
          intro i hi
          rw [z_w_get]
          simp only [wT, wN] at hi ⊢
          rw [if_neg c1] at hi
          by_cases hq : (i : Int) = n + wN (byt c) k
          · have hi' : i = (n + wN (byt c) k).toNat := by omega
            rw [if_pos ⟨trivial, trivial, hi'⟩, if_pos ⟨c1, hq⟩]
          · rw [if_neg (by omega), if_neg (by omega)]; exact hc i (by omega)) (by
          intro q hq
          by_cases hqk : q = k
          · rw [hqk]; unfold wG; omega
          · exact hg q (by omega)) (by rw [wN, if_neg c1]; omega)
        rw [e8, wN, if_neg c1, ← Int.add_assoc] at h3
        exact h3
      · intro hk
        have h5 := hk.2
        have h6 := wN_mono' (byt c) (show k + 1 ≤ 8 by omega)
        rw [wN, if_neg c1] at h6
        omega
      · have h3 := ih (k + 1) (some (zI (byt c k))) cl M' (by omega) hfr hl (by
          intro i hi
          simp only [wT, wN] at hi ⊢
          rw [if_pos c1] at hi
          rw [if_neg (by omega)]; exact hc i (by omega)) (by
          intro q hq
          by_cases hqk : q = k
          · rw [hqk]; exact Or.inl c1
          · exact hg q (by omega)) (by rw [wN, if_pos c1]; omega)
        rw [e8, wN, if_pos c1, Int.add_zero] at h3
        exact h3
  have h3 := key 8 0 none true M rfl (zfr.refl _ _ _) hn (by intro i hi; exact hT.2 i (by simp only [wN] at hi; omega)) (by intro q hq; omega) (by simp only [wN]; omega)
  rw [hn]
  rw [wN, Int.add_zero] at h3
  exact h3
theorem c2 {M : zM} {T : Nat → Int} {n c : Int} {R : Option zV → zM → Prop} (hT : cTx M T n) (hk : okT T n)
    (h1 : wOk (byt c) n → ∀ M', zfr p1 zno M M' → cTx M' (wT (byt c) T n 8) (n + wN (byt c) 8) → R (some (zI 1)) M')
    (h0 : ¬ wOk (byt c) n → ∀ M', zfr p1 zno M M' → cTx M' T n → R (some (zI 0)) M') : zF 2 [zR 0 0, zJ c] M R := by
  refine g2_0 (c1 hT hk (fun hw M' hf hc => ⟨1, rfl, fun cl => ⟨by omega, rfl, h1 hw M' hf hc⟩⟩) (fun hw M' hf hc => ⟨0, rfl, fun cl => ⟨by omega, rfl, h0 hw M' hf hc⟩⟩))
abbrev p3 : Nat → Nat → Prop := fun k s => k = 19 ∨ (k = 18 ∧ (s = 1 ∨ s = 2))
-- the reference's write
theorem c3 {M : zM} {T : Nat → Int} {n c : Int} {R : Option zV → zM → Prop} (hT : mTx M T n) (hk : okT T n)
    (h1 : wOk (byt c) n → ∀ M', zfr p3 zno M M' → M'.1 18 0 1 = 0 → mTx M' (wT (byt c) T n 8) (n + wN (byt c) 8) → R (some (zI 1)) M')
    (h0 : ¬ wOk (byt c) n → ∀ M', zfr p3 zno M M' → M'.1 18 0 1 = 0 → mTx M' T n → R (some (zI 0)) M') : zF 3 [zR 18 0, zJ c] M R := by
  have hn := hT.1
  have hk1 := hk.1
  have hk2 := hk.2.1
  refine g3_0 ?_
  have hf0 : zfr p3 zno M (z_w M 18 0 1 0) := (zfr.refl _ _ _).w _ _ _ _ (Or.inr ⟨rfl, Or.inl rfl⟩)
  have second : wOk (byt c) n → ∀ (f k : Nat) (u : Option zV) (cl : Bool) (M' : zM) (x3 : Int), k + f = 8 → zfr p3 zno M M' → M'.1 18 0 1 = 0 → M'.1 18 0 2 = n + wN (byt c) k → (∀ i : Nat, (i : Int) < n + wN (byt c) k → M'.1 19 0 i = wT (byt c) T n k i) →
      zT 3 (87, [some (zR 18 0), some (zJ c), none, some (zI x3), some (zI k), u], [], M', cl) (zq R) := by
    intro hw f
    induction f with
    | zero =>
      intro k u cl M' x3 hf hfr hc0 hl hc
      obtain rfl : k = 8 := by omega
      exact g3_87 ⟨by omega, fun _ => ⟨rfl, h1 hw _ hfr hc0 ⟨hl, hc⟩⟩, fun c => by omega⟩
    | succ f ih =>
      intro k u cl M' x3 hf hfr hc0 hl hc
      have hb := byt_r c k
      have hwn := wN_le (byt c) k
      have h6 := wN_mono' (byt c) (show k + 1 ≤ 8 by omega)
      have h5 := hw.2
      have e8 : ((k + 1 : Nat) : Int) = (k : Int) + 1 := by omega
      refine g3_87 ?_
      rw [byt_e c k _ rfl]
      refine ⟨by omega, fun _ => by omega, fun _ => ⟨by omega, by omega, fun c1 => ?_, fun c1 => ⟨by omega, ?_, ?_⟩⟩⟩
      · have h3 := ih (k + 1) (some (zI (byt c k))) cl M' x3 (by omega) hfr hc0 (by rw [wN, if_pos c1]; omega) (by
          intro i hi
          simp only [wT, wN] at hi ⊢
          rw [if_pos c1] at hi
          rw [if_neg (by omega)]; exact hc i (by omega))
        rw [e8] at h3
        exact h3
      · rw [wN, if_neg c1] at h6; omega
      · have h3 := ih (k + 1) (some (zI (byt c k))) false (z_w (z_w M' 19 0 ((M'.1 18 0 2).toNat) (byt c k)) 18 0 2 (M'.1 18 0 2 + 1)) x3 (by omega) ((hfr.w 19 0 _ _ (Or.inl rfl)).w 18 0 2 _ (Or.inr ⟨rfl, Or.inr rfl⟩)) (by rw [z_w_get, z_w_get]; simp [hc0]) (by rw [z_w_get, wN, if_neg c1]; simp; omega) (by
          intro i hi
          rw [z_w_get, z_w_get]
          simp only [wT, wN] at hi ⊢
          rw [if_neg c1] at hi
          rw [if_neg (by omega)]
          by_cases hq : (i : Int) = n + wN (byt c) k
          · have hi' : i = (M'.1 18 0 2).toNat := by omega
            rw [if_pos ⟨trivial, trivial, hi'⟩, if_pos ⟨c1, hq⟩]
          · rw [if_neg (by omega), if_neg (by omega)]; exact hc i (by omega))
        rw [e8] at h3
        exact h3
  have first : ∀ (f k : Nat) (u : Option zV) (cl : Bool), k + f = 8 → (∀ q, q < k → wG (byt c) q) →
      zT 3 (10, [some (zR 18 0), some (zJ c), none, some (zI (wN (byt c) k)), some (zI k), u], [], z_w M 18 0 1 0, cl) (zq R) := by
    intro f
    induction f with
    | zero =>
      intro k u cl hf hg
      obtain rfl : k = 8 := by omega
      have hw := wN_le (byt c) 8
      have e : (z_w M 18 0 1 0).1 18 0 2 = n := hn
      refine g3_10 ?_
      rw [e]
      refine ⟨by omega, fun _ => ⟨by omega, fun c1 => ?_, fun c1 => ⟨rfl, h0 (fun hw => c1 hw.2) _ hf0 rfl ⟨hn, hT.2⟩⟩⟩, fun c => by omega⟩
      exact second ⟨hg, c1⟩ 8 0 u cl _ _ rfl hf0 rfl (by rw [wN, Int.add_zero]; exact hn) (by intro i hi; exact hT.2 i (by simp only [wN] at hi; omega))
    | succ f ih =>
      intro k u cl hf hg
      have hb := byt_r c k
      have hw := wN_le (byt c) k
      have e8 : ((k + 1 : Nat) : Int) = (k : Int) + 1 := by omega
      have hfail : ¬ wG (byt c) k → R (some (zI 0)) (z_w M 18 0 1 0) := fun hno => h0 (fun hw => hno (hw.1 k (by omega))) _ hf0 rfl ⟨hn, hT.2⟩
      have hgo : wG (byt c) k → ∀ cl, zT 3 (10, [some (zR 18 0), some (zJ c), none, some (zI (wN (byt c) k + (if byt c k = 0 then 0 else 1))), some (zI ((k : Int) + 1)), some (zI (byt c k))], [], z_w M 18 0 1 0, cl) (zq R) := by
        intro hg' cl
        have h3 := ih (k + 1) (some (zI (byt c k))) cl (by omega) (by
          intro q hq
          by_cases hqk : q = k
          · rw [hqk]; exact hg'
          · exact hg q (by omega))
        rw [e8, wN] at h3
        exact h3
      refine g3_10 ?_
      rw [byt_e c k _ rfl]
      refine ⟨by omega, fun _ => by omega, fun _ => ⟨by omega, by omega, fun c1 => ⟨by omega, fun c2 => absurd c1 c2, fun c2 => ?_⟩, fun c1 => ⟨by omega, fun c2 => ⟨rfl, hfail ?_⟩, fun c2 => ⟨by omega, fun c3 => ⟨by omega, fun c4 => ?_, fun c4 => absurd c4 c1⟩, fun c3 => ⟨rfl, hfail ?_⟩⟩⟩⟩⟩
      · have := hgo (Or.inl c1) cl; rw [if_pos c1] at this; exact this
      · unfold wG; omega
      · have := hgo (by unfold wG; omega) cl; rw [if_neg c1] at this; exact this
      · unfold wG; omega
  exact first 8 0 none false rfl (by intro q hq; omega)
-- wipe
theorem c4 {M : zM} {R : Option zV → zM → Prop} (h : R (some (zI (M.1 1 0 1))) (z_w M 1 0 1 0)) : zF 4 [zR 1 0] M R := g4_0 ⟨rfl, h⟩
theorem c5 {M : zM} {R : Option zV → zM → Prop} (h : R (some (zI (M.1 1 0 1))) (z_w M 1 0 1 0)) : zF 5 [zR 0 0] M R := g5_0 (c4 ⟨_, rfl, fun _ => ⟨rfl, h⟩⟩)
theorem c6 {M : zM} {R : Option zV → zM → Prop} (h : R (some (zI (M.1 18 0 2))) (z_w (z_w M 18 0 1 0) 18 0 2 0)) : zF 6 [zR 18 0] M R := g6_0 ⟨rfl, h⟩
