-- The reference's reader of frames. (own work)
abbrev p54 : Nat → Nat → Prop := fun k s => k = 20 ∨ k = 21 ∨ (k = 18 ∧ (s = 4 ∨ s = 7))
theorem mTx_fr {P PL : Nat → Nat → Prop} {M M' : zM} {T : Nat → Int} {n : Int} (h : zfr P PL M M') (h1 : ¬ P 18 2) (h2 : ∀ i, ¬ P 19 i) (hT : mTx M T n) : mTx M' T n :=
  ⟨by rw [h.1 18 0 2 h1]; exact hT.1, fun i hi => by rw [h.1 19 0 i (h2 i)]; exact hT.2 i hi⟩
theorem c53w {M : zM} {T : Nat → Int} {n p most : Int} {R : Option zV → zM → Prop} (hT : mTx M T n) (hk : okT T n) (hi : 0 ≤ p ∧ p ≤ 81) (hm : 0 ≤ most ∧ most ≤ 5) (h : R (some (zI (mNm T n p most))) (z_w M 18 0 7 (tDg T n p))) : zF 53 [zR 18 0, zI most] (z_w M 18 0 7 p) R := by
  refine c53 (T := T) (n := n) (M := z_w M 18 0 7 p) hT hk hi hm ?_
  show R (some (zI (mNm T n p most))) (z_w (z_w M 18 0 7 p) 18 0 7 (tDg T n p))
  rw [z_w_w]; exact h
theorem c52w {M : zM} {T : Nat → Int} {n p : Int} {R : Option zV → zM → Prop} (hT : mTx M T n) (hk : okT T n) (hi : 0 ≤ p ∧ p ≤ 80) (h : R none (z_w M 18 0 7 (tSk T n p))) : zF 52 [zR 18 0] (z_w M 18 0 7 p) R := by
  refine c52 (T := T) (n := n) (M := z_w M 18 0 7 p) hT hk hi ?_
  show R none (z_w (z_w M 18 0 7 p) 18 0 7 (tSk T n p))
  rw [z_w_w]; exact h
theorem c54 {M : zM} {T : Nat → Int} {n : Int} {R : Option zV → zM → Prop} (hT : mTx M T n) (hk : okT T n)
    (h1 : ∀ W M', isFr T n W → zfr p54 zno M M' → M'.1 18 0 4 = (W : Int) → (∀ w, w < W → M'.1 20 0 w = tAt T n (wPs T n w) ∧ M'.1 21 0 w = wVl T n (wPs T n w)) → R (some (zI 1)) M')
    (h0 : (¬ ∃ W, isFr T n W) → ∀ M', zfr p54 zno M M' → R (some (zI 0)) M') : zF 54 [zR 18 0] M R := by
  have hk1 := hk.1
  have hk2 := hk.2.1
  have P7 : p54 18 7 := Or.inr (Or.inr ⟨rfl, Or.inr rfl⟩)
  have P4 : p54 18 4 := Or.inr (Or.inr ⟨rfl, Or.inl rfl⟩)
  -- the sum of what stands ahead of the star
  have sum : ∀ (W : Nat), (∀ w, w < W → wCap T n w ∧ wFine T n w) → ¬ wCap T n W → 0 < W → tAt T n (wPs T n 0) = 78 → tAt T n (wPs T n W) = 42 → ∀ (M' : zM), zfr p54 zno M M' → M'.1 18 0 4 = (W : Int) → M'.1 18 0 7 = wPs T n W → (∀ w, w < W → M'.1 20 0 w = tAt T n (wPs T n w) ∧ M'.1 21 0 w = wVl T n (wPs T n w)) →
      ∀ (f k : Nat) (cl : Bool), (wPs T n W).toNat - k ≤ f → (k : Int) ≤ wPs T n W → zT 54 (200, [some (zR 18 0), some (zI (tXr T k)), some (zI k)], [], M', cl) (zq R) := by
    intro W hg hn hW h78 h42 M' hfr hc hat ha
    have hT' := mTx_fr hfr (by omega) (by omega) hT
    have hps := wPs_r hk W (fun q hq => (hg q hq).2)
    have hlt := tAt_pos (T := T) (n := n) (i := wPs T n W) (by omega)
    have huniq : ∀ V, isFr T n V → V = W := by
      intro V hV
      have hlt : ¬ W < V := fun hh => hn (hV.1 W hh).1
      have hgt : ¬ V < W := fun hh => hV.2.1 (hg V hh).1
      omega
    have last : ∀ cl : Bool, zT 54 (200, [some (zR 18 0), some (zI (tXr T (wPs T n W).toNat)), some (zI (wPs T n W))], [], M', cl) (zq R) := by
      intro cl
      have hx := tXr_r hk (wPs T n W).toNat (by omega)
      have hfr1 : zfr p54 zno M (z_w M' 18 0 7 (wPs T n W + 1)) := hfr.w 18 0 7 _ P7
      have hfr2 : zfr p54 zno M (z_w M' 18 0 7 (tDg T n (wPs T n W + 1))) := hfr.w 18 0 7 _ P7
      have hfr3 : zfr p54 zno M (z_w M' 18 0 7 (tSk T n (tDg T n (wPs T n W + 1)))) := hfr.w 18 0 7 _ P7
      have hd := tDg_le (T := T) (n := n) (i := wPs T n W + 1)
      have hsk := tSk_le (T := T) (n := n) (i := tDg T n (wPs T n W + 1))
      refine g54_200 ?_
      rw [hat]
      refine ⟨by omega, fun _ => ?_, fun c => by omega⟩
      refine c53w (T := T) (n := n) hT' hk (by omega) (by omega) ⟨_, rfl, fun _ => ?_⟩
      refine c52w (T := T) (n := n) hT' hk (by omega) ⟨rfl, fun _ => ?_⟩
      have e7 : (z_w M' 18 0 7 (tSk T n (tDg T n (wPs T n W + 1)))).1 18 0 7 = tSk T n (tDg T n (wPs T n W + 1)) := rfl
      have e2 : (z_w M' 18 0 7 (tSk T n (tDg T n (wPs T n W + 1)))).1 18 0 2 = n := hT'.1
      rw [e7, e2]
      have hmr : zr (mNm T n (wPs T n W + 1) 3) := by
        unfold mNm
        split
        · omega
        · rename_i hq
          have hnum := tNm_r (T := T) (n := n) (i := wPs T n W + 1) (by omega) (tDg T n (wPs T n W + 1) - (wPs T n W + 1)).toNat (by
            intro j hj
            have h2 := tDg_in (T := T) (n := n) j (wPs T n W + 1) (wPs T n W + 1 + j) (by omega) (by omega) (by omega) (by omega)
            have h3 := tAt_pos (T := T) (n := n) (i := wPs T n W + 1 + j) (by omega)
            rw [tAt, if_pos (by omega)] at h2
            exact h2)
          have hpow : (10 : Int) ^ (tDg T n (wPs T n W + 1) - (wPs T n W + 1)).toNat ≤ 1000 := by
            generalize hg : (tDg T n (wPs T n W + 1) - (wPs T n W + 1)).toNat = l
            have : l ≤ 3 := by omega
            match l with
            | 0 => decide
            | 1 => decide
            | 2 => decide
            | 3 => decide
            | l + 4 => omega
          omega
      refine ⟨by omega, fun c => ⟨rfl, h0 (fun ⟨V, hV⟩ => c ?_) _ hfr3⟩, fun c => ⟨by omega, fun c2 => ⟨rfl, h0 (fun ⟨V, hV⟩ => c2 ?_) _ hfr3⟩, fun c2 => ⟨rfl, h1 W _ ⟨hg, hn, hW, h78, h42, ?_⟩ hfr3 hc ha⟩⟩⟩
      · have := huniq V hV; subst this
        have hs := hV.2.2.2.2
        unfold sumOk at hs
        unfold mNm
        rw [if_neg (by omega)]; exact hs.2.2.2
      · have := huniq V hV; subst this
        exact hV.2.2.2.2.2.2.1
      · unfold mNm at c
        by_cases hq : tDg T n (wPs T n W + 1) - (wPs T n W + 1) < 1 ∨ 3 < tDg T n (wPs T n W + 1) - (wPs T n W + 1)
        · rw [if_pos hq] at c; omega
        · rw [if_neg hq] at c; exact ⟨by omega, c2, c⟩
    intro f
    induction f with
    | zero =>
      intro k cl hf h0k
      have e : (k : Int) = wPs T n W := by omega
      have e2 : k = (wPs T n W).toNat := by omega
      have := last cl
      rw [← e2, ← e] at this
      exact this
    | succ f ih =>
      intro k cl hf h0k
      by_cases e : (k : Int) = wPs T n W
      · have e2 : k = (wPs T n W).toNat := by omega
        have := last cl
        rw [← e2, ← e] at this
        exact this
      · have hx := tXr_r hk k (by omega)
        have hch := hk.2.2 k (by omega)
        have hm := hT'.2 k (by omega)
        refine g54_200 ?_
        rw [hat, Int.toNat_natCast, hm]
        refine ⟨by omega, fun c => by omega, fun _ => ⟨by omega, by omega, ?_⟩⟩
        have h3 := ih (k + 1) cl (by omega) (by omega)
        rw [tXr] at h3
        exact h3
  have fin : ∀ (W : Nat) (M' : zM) (cl : Bool) (u1 u2 : Option zV), zfr p54 zno M M' → M'.1 18 0 4 = (W : Int) → M'.1 18 0 7 = wPs T n W → (∀ w, w < W → wCap T n w ∧ wFine T n w) → ¬ wCap T n W → (∀ w, w < W → M'.1 20 0 w = tAt T n (wPs T n w) ∧ M'.1 21 0 w = wVl T n (wPs T n w)) →
      zT 54 (163, [some (zR 18 0), u1, u2], [], M', cl) (zq R) := by
    intro W M' cl u1 u2 hfr hc hat hg hn ha
    have hT' := mTx_fr hfr (by omega) (by omega) hT
    have hps := wPs_r hk W (fun q hq => (hg q hq).2)
    have hr := tAt_r hk (wPs T n W)
    have huniq : ∀ V, isFr T n V → V = W := by
      intro V hV
      have hlt : ¬ W < V := fun hh => hn (hV.1 W hh).1
      have hgt : ¬ V < W := fun hh => hV.2.1 (hg V hh).1
      omega
    refine g54_163 ?_
    rw [hat]
    refine c51 (T := T) (n := n) hT' hk (by omega) ⟨_, rfl, fun cl6 => ⟨by omega, fun c => ⟨rfl, h0 (fun ⟨V, hV⟩ => c ?_) _ hfr⟩, fun c => ⟨by omega, fun c2 => ⟨rfl, h0 (fun ⟨V, hV⟩ => ?_) _ hfr⟩, fun c2 => ?_⟩⟩⟩
    · have := huniq V hV; subst this; exact hV.2.2.2.2.1
    · have := huniq V hV; have := hV.2.2.1; omega
    · have hl := (ha 0 (by omega)).1
      have hr0 := tAt_r hk (wPs T n 0)
      rw [hl]
      refine ⟨by omega, fun c3 => sum W hg hn (by omega) c3 c M' hfr hc hat ha _ 0 cl6 (Nat.le_refl _) (by omega), fun c3 => ⟨rfl, h0 (fun ⟨V, hV⟩ => c3 hV.2.2.2.1) _ hfr⟩⟩
  have loop : ∀ (f w : Nat) (u1 u2 : Option zV) (M' : zM) (cl : Bool), 41 - w ≤ f → zfr p54 zno M M' → M'.1 18 0 4 = (w : Int) → M'.1 18 0 7 = wPs T n w → (∀ q, q < w → wCap T n q ∧ wFine T n q) → (∀ q, q < w → M'.1 20 0 q = tAt T n (wPs T n q) ∧ M'.1 21 0 q = wVl T n (wPs T n q)) →
      zT 54 (14, [some (zR 18 0), u1, u2], [], M', cl) (zq R) := by
    intro f
    induction f with
    | zero =>
      intro w u1 u2 M' cl hf hfr hc hat hg ha
      have hps := wPs_r hk w (fun q hq => (hg q hq).2)
      omega
    | succ f ih =>
      intro w u1 u2 M' cl hf hfr hc hat hg ha
      have hps := wPs_r hk w (fun q hq => (hg q hq).2)
      have hT' := mTx_fr hfr (by omega) (by omega) hT
      have hr := tAt_r hk (wPs T n w)
      have hr1 := tAt_r hk (wPs T n w + 1)
      have hm := wMi_r T n (wPs T n w)
      refine g54_14 ?_
      rw [hat]
      refine c51 (T := T) (n := n) hT' hk (by omega) ⟨_, rfl, fun cl2 => ⟨by omega, fun c => fin w M' cl2 u1 u2 hfr hc hat hg (by unfold wCap; omega) ha, fun c => ?_⟩⟩
      rw [hat]
      refine c51 (T := T) (n := n) hT' hk (by omega) ⟨_, rfl, fun cl3 => ⟨by omega, fun c2 => fin w M' cl3 u1 u2 hfr hc hat hg (by unfold wCap; omega) ha, fun c2 => ?_⟩⟩
      have hcap : wCap T n w := by unfold wCap; omega
      have hlt := tAt_pos (T := T) (n := n) (i := wPs T n w) (by omega)
      have hcq : ∀ q, q ≤ w → wCap T n q := by
        intro q hq
        by_cases e : q = w
        · rw [e]; exact hcap
        · exact (hg q (by omega)).1
      rw [hat]
      refine c51 (T := T) (n := n) hT' hk (by omega) ⟨_, rfl, fun cl4 => ?_⟩
      rw [hat, hc, Int.toNat_natCast]
      refine ⟨by omega, ?_⟩
      have hfr1 : ∀ x : Int, zfr p54 zno M (z_w (z_w M' 20 0 w (tAt T n (wPs T n w))) 18 0 7 x) := fun x => (hfr.w 20 0 _ _ (Or.inl rfl)).w 18 0 7 _ P7
      -- the word behind its sign
      have word : ∀ (x : Int) (r : Int) (s : Int), x = wFr T n (wPs T n w) → 0 ≤ wMi T n (wPs T n w) → ∀ (Rr : Option zV → zM → Prop),
          (mNm T n x 5 = -1 → ¬ wFine T n w → Rr (some (zI (mNm T n x 5))) (z_w (z_w M' 20 0 w (tAt T n (wPs T n w))) 18 0 7 (tDg T n x))) →
          (0 ≤ mNm T n x 5 → (1 ≤ wEn T n (wPs T n w) - wFr T n (wPs T n w) ∧ wEn T n (wPs T n w) - wFr T n (wPs T n w) ≤ 5) → mNm T n x 5 = tNm T (wFr T n (wPs T n w)) (wEn T n (wPs T n w) - wFr T n (wPs T n w)).toNat → mNm T n x 5 ≤ 99999 → Rr (some (zI (mNm T n x 5))) (z_w (z_w M' 20 0 w (tAt T n (wPs T n w))) 18 0 7 (tDg T n x))) →
          zF 53 [zR 18 0, zI 5] (z_w (z_w M' 20 0 w (tAt T n (wPs T n w))) 18 0 7 x) Rr := by
        intro x r s hx hs Rr hb hgd
        have hx0 : 0 ≤ x ∧ x ≤ 81 := by
          rw [hx]; unfold wFr
          by_cases hmm : wMi T n (wPs T n w) = 1
          · unfold wMi at hmm
            by_cases h45 : tAt T n (wPs T n w + 1) = 45
            · have := tAt_pos (T := T) (n := n) (i := wPs T n w + 1) (by omega)
              omega
            · rw [if_neg h45] at hmm; omega
          · omega
        refine c53w (T := T) (n := n) (M := z_w M' 20 0 w (tAt T n (wPs T n w))) hT' hk hx0 (by omega) ?_
        have ewn : wEn T n (wPs T n w) = tDg T n x := by rw [wEn, hx]
        by_cases hq : tDg T n x - x < 1 ∨ 5 < tDg T n x - x
        · have e : mNm T n x 5 = -1 := by unfold mNm; rw [if_pos hq]
          refine hb e (fun hf => ?_)
          have := hf.1; rw [ewn, ← hx] at this; omega
        · have e : mNm T n x 5 = tNm T x (tDg T n x - x).toNat := by unfold mNm; rw [if_neg hq]
          have hv := wVl_r (T := T) (n := n) (p := wPs T n w) (by omega) (by rw [ewn, ← hx]; omega) (by rw [ewn, ← hx]; omega)
          have hv2 : tNm T x (tDg T n x - x).toNat ≤ 99999 := by
            have h5 := hv.1
            have h6 := hv.2.1
            unfold wVl at h5 h6
            rw [ewn, ← hx] at h5 h6
            split at h5 <;> omega
          have hv3 := hv.2.2.1
          rw [ewn, ← hx] at hv3
          exact hgd (by omega) (by rw [ewn, ← hx]; omega) (by rw [e, ewn, ← hx]) (by omega)
      -- the next word
      have next : ∀ (v : Int) (cl : Bool) (s r : Int), wFine T n w → v = wVl T n (wPs T n w) → zF 52 [zR 18 0] (z_w (z_w (z_w (z_w M' 20 0 w (tAt T n (wPs T n w))) 18 0 7 (wEn T n (wPs T n w))) 21 0 w v) 18 0 4 (w + 1)) (fun v M8 => v = none ∧ ∀ cl8 : Bool, zT 54 (14, [some (zR 18 0), some (zI s), some (zI r)], [], M8, cl8) (zq R)) := by
        intro v cl s r hfine hv
        have hen := wEn_n (T := T) (n := n) (p := wPs T n w) (by omega) hfine.1.1
        have hfr2 : zfr p54 zno M (z_w (z_w (z_w (z_w M' 20 0 w (tAt T n (wPs T n w))) 18 0 7 (wEn T n (wPs T n w))) 21 0 w v) 18 0 4 (w + 1)) := ((hfr1 _).w 21 0 _ _ (Or.inr (Or.inl rfl))).w 18 0 4 _ P4
        refine c52 (T := T) (n := n) (mTx_fr hfr2 (by omega) (by omega) hT) hk (show 0 ≤ wEn T n (wPs T n w) ∧ wEn T n (wPs T n w) ≤ 80 by omega) ⟨rfl, fun cl8 => ?_⟩
        refine ih (w + 1) _ _ _ cl8 (by omega) (hfr2.w 18 0 7 _ P7) (by simp [z_w_get]) rfl (by
          intro q hq
          by_cases e : q = w
          · subst e; exact ⟨hcap, hfine⟩
          · exact hg q (by omega)) (by
          intro q hq
          simp only [z_w_get]
          by_cases e : q = w
          · subst e; simp [hv]
          · have := ha q (by omega)
            simp [e, this])
      have hno : ¬ wFine T n w → ¬ ∃ W, isFr T n W := by
        rintro hnf ⟨V, hV⟩
        exact hnf (hV.1 w (isFr_lt hV hcq)).2
      refine c51 (T := T) (n := n) (i := wPs T n w + 1) (mTx_fr (hfr1 _) (by omega) (by omega) hT) hk (by omega) ⟨_, rfl, fun cl5 => ⟨by omega, fun c3 => ?_, fun c3 => ?_⟩⟩
      · have hm0 : wMi T n (wPs T n w) = 0 := by unfold wMi; rw [if_neg c3]
        rw [z_w_w]
        have ex : wPs T n w + 1 + 0 = wFr T n (wPs T n w) := by unfold wFr; omega
        have ewn : wEn T n (wPs T n w) = tDg T n (wPs T n w + 1 + 0) := by rw [wEn, ex]
        have e4 : (z_w (z_w M' 20 0 w (tAt T n (wPs T n w))) 18 0 7 (tDg T n (wPs T n w + 1 + 0))).1 18 0 4 = (w : Int) := hc
        refine word (wPs T n w + 1 + 0) 0 0 ex (by omega) _ (fun hb hnf => ?_) (fun hb hf1 hf2 hf3 => ?_)
        · exact ⟨_, rfl, fun _ => ⟨by omega, fun _ => ⟨rfl, h0 (hno hnf) _ (hfr1 _)⟩, fun c => by omega⟩⟩
        · refine ⟨_, rfl, fun cl6 => ⟨by omega, fun c => by omega, fun _ => ?_⟩⟩
          rw [e4, Int.toNat_natCast]
          refine ⟨by omega, ?_⟩
          rw [← ewn]
          exact next _ cl6 _ _ ⟨hf1, fun _ => hm0⟩ (by rw [hf2, wVl, if_neg (by omega)])
      · have hm1 : wMi T n (wPs T n w) = 1 := by unfold wMi; rw [if_pos c3]
        rw [z_w_w]
        have ex : wPs T n w + 1 + 1 = wFr T n (wPs T n w) := by unfold wFr; omega
        have ewn : wEn T n (wPs T n w) = tDg T n (wPs T n w + 1 + 1) := by rw [wEn, ex]
        have e4 : (z_w (z_w M' 20 0 w (tAt T n (wPs T n w))) 18 0 7 (tDg T n (wPs T n w + 1 + 1))).1 18 0 4 = (w : Int) := hc
        refine word (wPs T n w + 1 + 1) 0 0 ex (by omega) _ (fun hb hnf => ?_) (fun hb hf1 hf2 hf3 => ?_)
        · exact ⟨_, rfl, fun _ => ⟨by omega, fun _ => ⟨rfl, h0 (hno hnf) _ (hfr1 _)⟩, fun c => by omega⟩⟩
        · refine ⟨_, rfl, fun cl6 => ⟨by omega, fun c => by omega, fun _ => ?_⟩⟩
          rw [e4, Int.toNat_natCast]
          refine ⟨by omega, fun c4 => ⟨by omega, ?_⟩, fun c4 => ⟨rfl, h0 (hno (fun hf => ?_)) _ (hfr1 _)⟩⟩
          · rw [← ewn]
            exact next _ cl6 _ _ ⟨hf1, fun h => by omega⟩ (by rw [hf2, wVl, if_pos hm1])
          · have := hf.2 (by omega); omega
  have hf0 : zfr p54 zno M (z_w (z_w M 18 0 7 0) 18 0 4 0) := ((zfr.refl _ _ _).w 18 0 7 _ P7).w 18 0 4 _ P4
  refine g54_0 ?_
  refine c52 (T := T) (n := n) (mTx_fr hf0 (by omega) (by omega) hT) hk (show (0 : Int) ≤ 0 ∧ (0 : Int) ≤ 80 by omega) ⟨rfl, fun cl => ?_⟩
  exact loop 41 0 none none _ cl (by omega) (hf0.w 18 0 7 _ P7) rfl rfl (by intro q hq; omega) (by intro q hq; omega)
