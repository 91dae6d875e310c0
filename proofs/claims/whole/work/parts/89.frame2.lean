-- The class's reader of frames. (own work)
def eCut (e f : Int) : Int := if e ≤ f + 5 then e else f + 5
theorem t13 {M : zM} {T : Nat → Int} {n fr l : Int} {w : Nat} {F : Int → Int} {R : Option zV → zM → Prop} (hT : cTx M T n) (hk : okT T n) (hf : 0 ≤ fr ∧ fr ≤ n + 2) (hw : M.1 3 0 2 = w) (hw2 : w < 40) (hl : 0 ≤ l ∧ l ≤ 65535)
    (hbad : tDg T n fr ≤ fr → R (some (zI (-1))) M)
    (hgood : fr < tDg T n fr → R (some (zI (eCut (tDg T n fr) fr))) (z_w (z_w (z_w M 4 0 w l) 5 0 w (F (tNm T fr (eCut (tDg T n fr) fr - fr).toNat))) 3 0 2 (w + 1))) :
    zF 11 [zR 1 0, zI fr, zI 5] M (fun v M3 => ∃ r3 : Int, v = some (zI r3) ∧ ∀ cl3 : Bool, (zr r3 ∧ zr fr) ∧ ((r3 = fr → zq R (.inl (some (zI (-1)))) M3 cl3 0) ∧ (¬ (r3 = fr) → (zr (M3.1 3 0 2) ∧ zr 40) ∧ (((M3.1 3 0 2) < 40 → zF 12 [zR 1 0, zI fr, zI r3] M3 (fun v M4 => ∃ r4 : Int, v = some (zI r4) ∧ ∀ cl4 : Bool, (z_wi (M4.1 3 0 2) 40 ∧ 0 ≤ l ∧ l ≤ 65535) ∧ ((z_wi (M4.1 3 0 2) 40) ∧ (zq R (.inl (some (zI r3))) (z_w (z_w (z_w M4 4 0 ((M4.1 3 0 2).toNat) l) 5 0 ((M4.1 3 0 2).toNat) (F r4)) 3 0 2 ((M4.1 3 0 2) + 1)) false 0)))) ∧ (¬ ((M3.1 3 0 2) < 40) → zq R (.inl (some (zI (-1)))) M3 cl3 0))))) := by
  have hk1 := hk.1
  have hk2 := hk.2.1
  have hd := tDg_le (T := T) (n := n) (i := fr)
  refine c11 hT hk (by omega) (by omega) ⟨_, rfl, fun _ => ?_⟩
  show _
  have e : (if tDg T n fr ≤ fr + 5 then tDg T n fr else fr + 5) = eCut (tDg T n fr) fr := rfl
  rw [e]
  by_cases hc : fr < tDg T n fr
  · have hfn : fr ≤ n := by
      have h2 := (tDg_in (T := T) (n := n) 0 fr fr (by omega) (by omega) (by omega) hc).1
      have := tAt_pos (T := T) (n := n) (i := fr) (by omega)
      omega
    have hdn := hd.2 hfn
    have he : fr < eCut (tDg T n fr) fr ∧ eCut (tDg T n fr) fr ≤ n := by unfold eCut; split <;> omega
    refine ⟨by omega, fun c => by omega, fun c => ⟨by omega, fun c2 => ?_, fun c2 => by omega⟩⟩
    have key := c12 (l := (eCut (tDg T n fr) fr - fr).toNat) (i := fr) (R := fun v M4 => ∃ r4 : Int, v = some (zI r4) ∧ ∀ cl4 : Bool, (z_wi (M4.1 3 0 2) 40 ∧ 0 ≤ l ∧ l ≤ 65535) ∧ ((z_wi (M4.1 3 0 2) 40) ∧ (zq R (.inl (some (zI (eCut (tDg T n fr) fr)))) (z_w (z_w (z_w M4 4 0 ((M4.1 3 0 2).toNat) l) 5 0 ((M4.1 3 0 2).toNat) (F r4)) 3 0 2 ((M4.1 3 0 2) + 1)) false 0))) hT hk (by omega) ⟨_, rfl, fun _ => ⟨by omega, by omega, rfl, by rw [hw, Int.toNat_natCast]; exact hgood hc⟩⟩
    rw [show fr + ((eCut (tDg T n fr) fr - fr).toNat : Int) = eCut (tDg T n fr) fr by omega] at key
    exact key
  · have he : eCut (tDg T n fr) fr = fr := by unfold eCut; split <;> omega
    rw [he]
    exact ⟨by omega, fun _ => ⟨rfl, hbad (by omega)⟩, fun c => absurd rfl c⟩
abbrev wVc (T : Nat → Int) (n p : Int) : Int := if wMi T n p = 1 then - tNm T (wFr T n p) (eCut (wEn T n p) (wFr T n p) - wFr T n p).toNat else tNm T (wFr T n p) (eCut (wEn T n p) (wFr T n p) - wFr T n p).toNat
theorem c13 {M : zM} {T : Nat → Int} {n p : Int} {w : Nat} {R : Option zV → zM → Prop} (hT : cTx M T n) (hk : okT T n) (hp : 0 ≤ p ∧ p < n) (hw : M.1 3 0 2 = w) (hw2 : w < 40)
    (hbad : (w = 0 ∧ (¬ tAt T n p = 78 ∨ wMi T n p = 1)) ∨ wEn T n p ≤ wFr T n p → R (some (zI (-1))) M)
    (hgood : ¬ (w = 0 ∧ (¬ tAt T n p = 78 ∨ wMi T n p = 1)) → wFr T n p < wEn T n p → R (some (zI (eCut (wEn T n p) (wFr T n p)))) (z_w (z_w (z_w M 4 0 w (tAt T n p)) 5 0 w (wVc T n p)) 3 0 2 (w + 1))) : zF 13 [zR 3 0, zR 1 0, zI p] M R := by
  have hk1 := hk.1
  have hk2 := hk.2.1
  have hr := tAt_r hk p
  have hr1 := tAt_r hk (p + 1)
  refine g13_0 (c8 hT hk (by omega) ⟨_, rfl, fun _ => c8 hT hk (by omega) ⟨_, rfl, fun _ => ⟨by omega, fun c => ?_, fun c => ?_⟩⟩⟩)
  · have hm : wMi T n p = 0 := by rw [wMi, if_neg c]
    have ef : wFr T n p = p + 1 := by rw [wFr, hm]; omega
    have hv : wVc T n p = tNm T (p + 1) (eCut (tDg T n (p + 1)) (p + 1) - (p + 1)).toNat := by rw [wVc, if_neg (by omega), wEn, ef]
    rw [hv] at hgood
    rw [wEn, ef, hm] at hgood hbad
    refine ⟨by omega, fun c2 => t13 (F := fun x => x) hT hk (by omega) hw hw2 (by omega) (fun h => hbad (Or.inr h)) (fun h => hgood (by omega) h), fun c2 => ⟨by omega, fun c3 => ⟨rfl, hbad (Or.inl (by omega))⟩, fun c3 => t13 (F := fun x => x) hT hk (by omega) hw hw2 (by omega) (fun h => hbad (Or.inr h)) (fun h => hgood (by omega) h)⟩⟩
  · have hm : wMi T n p = 1 := by rw [wMi, if_pos c]
    have ef : wFr T n p = p + 2 := by rw [wFr, hm]; omega
    have hv : wVc T n p = - tNm T (p + 2) (eCut (tDg T n (p + 2)) (p + 2) - (p + 2)).toNat := by rw [wVc, if_pos (by omega), wEn, ef]
    rw [hv] at hgood
    rw [wEn, ef, hm] at hgood hbad
    refine ⟨by omega, fun c2 => t13 (F := fun x => -x) hT hk (by omega) hw hw2 (by omega) (fun h => hbad (Or.inr h)) (fun h => hgood (by omega) h), fun c2 => ⟨by omega, fun c3 => ⟨rfl, hbad (Or.inl (by omega))⟩, fun c3 => ⟨rfl, hbad (Or.inl (by omega))⟩⟩⟩
abbrev p17 : Nat → Nat → Prop := fun k s => k = 4 ∨ k = 5 ∨ (k = 3 ∧ s = 2)
theorem cTx_fr {P PL : Nat → Nat → Prop} {M M' : zM} {T : Nat → Int} {n : Int} (h : zfr P PL M M') (h1 : ¬ P 1 1) (h2 : ∀ i, ¬ P 2 i) (hT : cTx M T n) : cTx M' T n :=
  ⟨by rw [h.1 1 0 1 h1]; exact hT.1, fun i hi => by rw [h.1 2 0 i (h2 i)]; exact hT.2 i hi⟩
theorem c17 {M : zM} {T : Nat → Int} {n : Int} {R : Option zV → zM → Prop} (hT : cTx M T n) (hk : okT T n)
    (h1 : ∀ W M', isFr T n W → zfr p17 zno M M' → M'.1 3 0 2 = (W : Int) → (∀ w, w < W → M'.1 4 0 w = tAt T n (wPs T n w) ∧ M'.1 5 0 w = wVl T n (wPs T n w)) → R (some (zI 1)) M')
    (h0 : (¬ ∃ W, isFr T n W) → ∀ M', zfr p17 zno M M' → R (some (zI 0)) M') : zF 17 [zR 3 0, zR 1 0] M R := by
  have hk1 := hk.1
  have hk2 := hk.2.1
  -- behind the words
  have fin : ∀ (W : Nat) (M' : zM) (cl : Bool), zfr p17 zno M M' → M'.1 3 0 2 = (W : Int) → W ≤ 40 → (∀ w, w < W → wCap T n w ∧ wFine T n w) → ¬ wCap T n W → (0 < W → tAt T n (wPs T n 0) = 78) → (∀ w, w < W → M'.1 4 0 w = tAt T n (wPs T n w) ∧ M'.1 5 0 w = wVl T n (wPs T n w)) →
      (zr (M'.1 3 0 2)) ∧ (((M'.1 3 0 2) ≤ 0 → zq R (.inl (some (zI 0))) M' cl 0) ∧ (¬ ((M'.1 3 0 2) ≤ 0) → zF 16 [zR 1 0, zI (wPs T n W)] M' (fun v M2 => ∃ r2 : Int, v = some (zI r2) ∧ ∀ cl2 : Bool, (zr r2) ∧ ((r2 = 0 → zq R (.inl (some (zI 0))) M2 cl2 0) ∧ (¬ (r2 = 0) → zq R (.inl (some (zI 1))) M2 cl2 0))))) := by
    intro W M' cl hfr hc hW hg hn h78 ha
    have hps := wPs_r hk W (fun q hq => (hg q hq).2)
    have huniq : ∀ V, isFr T n V → V = W := by
      intro V hV
      have hlt : ¬ W < V := fun hh => hn (hV.1 W hh).1
      have hgt : ¬ V < W := fun hh => hV.2.1 (hg V hh).1
      omega
    refine ⟨by omega, fun c => ⟨rfl, h0 (fun ⟨V, hV⟩ => ?_) M' hfr⟩, fun c => ?_⟩
    · have := huniq V hV; have := hV.2.2.1; omega
    · refine c16 (cTx_fr hfr (by omega) (by omega) hT) hk (by omega) (fun hs => ⟨1, rfl, fun _ => ⟨by omega, fun c2 => by omega, fun _ => ⟨rfl, h1 W M' ⟨hg, hn, by omega, h78 (by omega), hs⟩ hfr hc ha⟩⟩⟩) (fun hs => ⟨0, rfl, fun _ => ⟨by omega, fun _ => ⟨rfl, h0 (fun ⟨V, hV⟩ => ?_) M' hfr⟩, fun c2 => absurd rfl c2⟩⟩)
      have := huniq V hV; subst this; exact hs hV.2.2.2.2
  have loop : ∀ (f w : Nat) (u : Option zV) (M' : zM) (cl : Bool), w + f = 40 → zfr p17 zno M M' → M'.1 3 0 2 = (w : Int) → (∀ q, q < w → wCap T n q ∧ wFine T n q) → (0 < w → tAt T n (wPs T n 0) = 78) → (∀ q, q < w → M'.1 4 0 q = tAt T n (wPs T n q) ∧ M'.1 5 0 q = wVl T n (wPs T n q)) →
      zT 17 (13, [some (zR 3 0), some (zR 1 0), some (zI (wPs T n w)), some (zI w), u], [], M', cl) (zq R) := by
    intro f
    induction f with
    | zero =>
      intro w u M' cl hf hfr hc hg h78 ha
      have hps := wPs_r hk w (fun q hq => (hg q hq).2)
      have hn : ¬ wCap T n w := by
        intro hcap
        have := tAt_pos (T := T) (n := n) (i := wPs T n w) (by unfold wCap at hcap; omega)
        omega
      exact g17_13 ⟨by omega, fun _ => fin w M' cl hfr hc (by omega) hg hn h78 ha, fun c => by omega⟩
    | succ f ih =>
      intro w u M' cl hf hfr hc hg h78 ha
      have hps := wPs_r hk w (fun q hq => (hg q hq).2)
      have hT' := cTx_fr hfr (by omega) (by omega) hT
      have hr := tAt_r hk (wPs T n w)
      refine g17_13 ⟨by omega, fun c => by omega, fun _ => c8 hT' hk (by omega) ⟨_, rfl, fun _ => c10 (by omega) ⟨_, rfl, fun cl4 => ⟨by split <;> omega, fun c => ?_, fun c => ?_⟩⟩⟩⟩
      · have hn : ¬ wCap T n w := by
          intro hcap
          unfold wCap at hcap; rw [if_pos hcap] at c; omega
        exact fin w M' cl4 hfr hc (by omega) hg hn h78 ha
      · have hcap : wCap T n w := by
          by_cases hq : wCap T n w
          · exact hq
          · unfold wCap at hq; rw [if_neg hq] at c; exact absurd rfl c
        have hlt := tAt_pos (T := T) (n := n) (i := wPs T n w) (by unfold wCap at hcap; omega)
        have hcq : ∀ q, q ≤ w → wCap T n q := by
          intro q hq
          by_cases e : q = w
          · rw [e]; exact hcap
          · exact (hg q (by omega)).1
        refine c13 hT' hk (by omega) hc (by omega) (fun hb => ?_) (fun hb hb2 => ?_)
        · refine ⟨-1, rfl, fun _ => ⟨by omega, fun c => absurd rfl c, fun _ => ⟨rfl, h0 (fun ⟨V, hV⟩ => ?_) M' hfr⟩⟩⟩
          have hwV := isFr_lt hV hcq
          have hfine := (hV.1 w hwV).2
          unfold wFine at hfine
          rcases hb with ⟨hb1, hb2⟩ | hb
          · subst hb1
            have := hV.2.2.2.1
            have := hfine.2 rfl
            omega
          · omega
        · have hm := wMi_r T n (wPs T n w)
          have hfr0 : 0 ≤ wFr T n (wPs T n w) := by unfold wFr; omega
          have hen := wEn_n (T := T) (n := n) (p := wPs T n w) (by omega) (by omega)
          have hec : wFr T n (wPs T n w) < eCut (wEn T n (wPs T n w)) (wFr T n (wPs T n w)) ∧ eCut (wEn T n (wPs T n w)) (wFr T n (wPs T n w)) ≤ n := by unfold eCut; split <;> omega
          have hfr' : zfr p17 zno M (z_w (z_w (z_w M' 4 0 w (tAt T n (wPs T n w))) 5 0 w (wVc T n (wPs T n w))) 3 0 2 (w + 1)) := ((hfr.w 4 0 _ _ (Or.inl rfl)).w 5 0 _ _ (Or.inr (Or.inl rfl))).w 3 0 2 _ (Or.inr (Or.inr ⟨rfl, rfl⟩))
          have hT'' := cTx_fr hfr' (by omega) (by omega) hT
          refine ⟨_, rfl, fun _ => ⟨by omega, fun _ => c9 hT'' hk (by omega) ⟨_, rfl, fun cl7 => ?_⟩, fun c => by omega⟩⟩
          by_cases h5 : wEn T n (wPs T n w) ≤ wFr T n (wPs T n w) + 5
          · have e5 : eCut (wEn T n (wPs T n w)) (wFr T n (wPs T n w)) = wEn T n (wPs T n w) := by unfold eCut; rw [if_pos h5]
            have hv : wVc T n (wPs T n w) = wVl T n (wPs T n w) := by unfold wVc wVl; rw [e5]
            rw [e5, hv]
            have h3 := ih (w + 1) (some (zI (wEn T n (wPs T n w)))) (z_w (z_w (z_w M' 4 0 w (tAt T n (wPs T n w))) 5 0 w (wVl T n (wPs T n w))) 3 0 2 (w + 1)) cl7 (by omega) (by rw [hv] at hfr'; exact hfr') (by rw [z_w_get]; simp) (by
              intro q hq
              by_cases e : q = w
              · subst e; exact ⟨hcap, ⟨by omega, fun h => by omega⟩⟩
              · exact hg q (by omega)) (by
              intro _
              by_cases e : w = 0
              · subst e; omega
              · exact h78 (by omega)) (by
              intro q hq
              simp only [z_w_get]
              by_cases e : q = w
              · subst e; simp
              · have := ha q (by omega)
                simp [e, this])
            rw [show ((w + 1 : Nat) : Int) = (w : Int) + 1 by omega] at h3
            exact h3
          · have e5 : eCut (wEn T n (wPs T n w)) (wFr T n (wPs T n w)) = wFr T n (wPs T n w) + 5 := by unfold eCut; rw [if_neg h5]
            rw [e5] at hec ⊢
            have hdig := tDg_in (T := T) (n := n) 5 (wFr T n (wPs T n w)) (wFr T n (wPs T n w) + 5) (by omega) hfr0 (by omega) (by unfold wEn at h5; omega)
            have hno : ¬ ∃ W, isFr T n W := by
              rintro ⟨V, hV⟩
              have hwV := isFr_lt hV hcq
              have hfine := (hV.1 w hwV).2
              unfold wFine at hfine
              omega
            rw [tSk_ne (by omega) (by omega)]
            -- no '*' there: the end
            have bad : ∀ cl : Bool, (zr ((z_w (z_w (z_w M' 4 0 w (tAt T n (wPs T n w))) 5 0 w (wVc T n (wPs T n w))) 3 0 2 (w + 1)).1 3 0 2)) ∧ (((z_w (z_w (z_w M' 4 0 w (tAt T n (wPs T n w))) 5 0 w (wVc T n (wPs T n w))) 3 0 2 (w + 1)).1 3 0 2) ≤ 0 → zq R (.inl (some (zI 0))) (z_w (z_w (z_w M' 4 0 w (tAt T n (wPs T n w))) 5 0 w (wVc T n (wPs T n w))) 3 0 2 (w + 1)) cl 0) ∧ (¬ (((z_w (z_w (z_w M' 4 0 w (tAt T n (wPs T n w))) 5 0 w (wVc T n (wPs T n w))) 3 0 2 (w + 1)).1 3 0 2) ≤ 0) → zF 16 [zR 1 0, zI (wFr T n (wPs T n w) + 5)] (z_w (z_w (z_w M' 4 0 w (tAt T n (wPs T n w))) 5 0 w (wVc T n (wPs T n w))) 3 0 2 (w + 1)) (fun v M2 => ∃ r2 : Int, v = some (zI r2) ∧ ∀ cl2 : Bool, (zr r2) ∧ ((r2 = 0 → zq R (.inl (some (zI 0))) M2 cl2 0) ∧ (¬ (r2 = 0) → zq R (.inl (some (zI 1))) M2 cl2 0)))) := by
              intro cl
              refine ⟨by rw [z_w_get]; simp; omega, fun _ => ⟨rfl, h0 hno _ hfr'⟩, fun _ => c16 hT'' hk (by omega) (fun hs => by have := hs.1; omega) (fun hs => ⟨0, rfl, fun _ => ⟨by omega, fun _ => ⟨rfl, h0 hno _ hfr'⟩, fun c => absurd rfl c⟩⟩)⟩
            refine g17_13 ⟨by omega, fun _ => bad cl7, fun _ => c8 hT'' hk (by omega) ⟨_, rfl, fun _ => c10 (by omega) ⟨_, rfl, fun cl4 => ⟨by split <;> omega, fun c => bad cl4, fun c => ?_⟩⟩⟩⟩
            rw [if_neg (by omega)] at c; exact absurd rfl c
  have hf0 : zfr p17 zno M (z_w M 3 0 2 0) := (zfr.refl _ _ _).w 3 0 2 _ (Or.inr (Or.inr ⟨rfl, rfl⟩))
  exact g17_0 (c9 (cTx_fr hf0 (by omega) (by omega) hT) hk (by omega) ⟨_, rfl, fun cl => loop 40 0 none _ cl rfl hf0 rfl (by intro q hq; omega) (by intro h; omega) (by intro q hq; omega)⟩)
