-- The class's plan: two passes. (own work)
abbrev p38 : Nat → Nat → Prop := fun k s => k = 10 ∧ s = 3
def bN (M : zM) (i : Nat) : Nat := bAt M (i : Int)
theorem bN_inj {M : zM} {i j : Nat} (hf : 0 ≤ M.1 8 0 2 ∧ M.1 8 0 2 ≤ 7) (hi : i < 8) (hj : j < 8) (h : bN M i = bN M j) : i = j := by
  unfold bN bAt at h; omega
theorem bN_fr {M M' : zM} (h : zfr p38 zno M M') (i : Nat) : bN M' i = bN M i := by
  unfold bN bAt; rw [h.1 8 0 2 (by simp [p38])]
-- what the row says of its blocks
abbrev rwOk (M : zM) (c d : Nat → Nat) (st n : Nat) : Prop := (0 ≤ M.1 8 0 2 ∧ M.1 8 0 2 ≤ 7) ∧ M.1 8 0 3 = (n : Int) ∧ n ≤ 8 ∧ (∀ i, i < n → b500 (M.1 11 (bN M i)) ∧ (0 ≤ M.1 10 (bN M i) 2 ∧ M.1 10 (bN M i) 2 ≤ 1000000) ∧ (d i : Int) = 2 * M.1 8 0 1 * M.1 10 (bN M i) 1 ∧ d i ≤ 1000000) ∧
  (∀ i, st < i → i < n → (c i : Int) = imin (M.1 10 (bN M i) 2) (jn (M.1 11 (bN M (i - 1))) (M.1 11 (bN M i)) (M.1 10 (bN M (i - 1)) 2) (M.1 10 (bN M i) 2)) ∧ c i ≤ 1000000)
theorem rwOk_fr {M M' : zM} {c d : Nat → Nat} {st n : Nat} (h : zfr p38 zno M M') (hr : rwOk M c d st n) : rwOk M' c d st n := by
  obtain ⟨h1, h2, h3, h4, h5⟩ := hr
  have e : ∀ s, ¬ s = 3 → ∀ b, M'.1 10 b s = M.1 10 b s := fun s hs b => h.1 10 b s (by simp [p38, hs])
  have e11 : ∀ b, M'.1 11 b = M.1 11 b := fun b => funext fun s => h.1 11 b s (by simp [p38])
  have e8 : ∀ s, M'.1 8 0 s = M.1 8 0 s := fun s => h.1 8 0 s (by simp [p38])
  refine ⟨by rw [e8]; exact h1, by rw [e8]; exact h2, h3, fun i hi => ?_, fun i hi1 hi2 => ?_⟩
  · rw [bN_fr h, e11, e 2 (by omega), e 1 (by omega), e8]; exact h4 i hi
  · rw [bN_fr h, bN_fr h, e11, e11, e 2 (by omega), e 2 (by omega)]; exact h5 i hi1 hi2
theorem pm_up_b {c d : Nat → Nat} {st given : Nat} (hg : given ≤ 1000000) : ∀ n : Nat, (∀ j, j < n → c (st + j + 1) ≤ 1000000) → pm_up c d st given n ≤ 1000000
  | 0, _ => hg
  | n + 1, h => by
    have := h n (by omega)
    simp only [pm_up]; omega
theorem c38_dn {M : zM} {c d : Nat → Nat} {st given n : Nat} {R : Option zV → zM → Prop} (hr : rwOk M c d st n) (hg : given ≤ 1000000) (hst : st < n)
    (h : ∀ M', zfr p38 zno M M' → (∀ q, st < q → q < n → M'.1 10 (bN M q) 3 = (pm_dn (fun q => pm_up c d st given (q - st)) d n (n - q) : Int)) → (∀ b, (∀ q, st < q → q < n → ¬ b = bN M q) → M'.1 10 b 3 = M.1 10 b 3) → R none M')
    (hup : ∀ q, st < q → q < n → M.1 10 (bN M q) 3 = (pm_up c d st given (q - st) : Int)) :
    ∀ (f x : Nat) (u4 u5 : Option zV) (cl : Bool) (M' : zM), x - st ≤ f → st ≤ x → x < n → zfr p38 zno M M' → (∀ q, x < q → q < n → M'.1 10 (bN M q) 3 = (pm_dn (fun q => pm_up c d st given (q - st)) d n (n - q) : Int)) → (∀ b, (∀ q, x < q → q < n → ¬ b = bN M q) → M'.1 10 b 3 = M.1 10 b 3) →
      zT 38 (127, [some (zR 8 0), some (zI st), some (zI (pm_dn (fun q => pm_up c d st given (q - st)) d n (n - (x + 1)) : Nat)), some (zI x), u4, u5], [], M', cl) (zq R) := by
  have h8 := hr.2.2.1
  intro f
  induction f with
  | zero =>
    intro x u4 u5 cl M' hf h1 h2 hfr hd ho
    obtain rfl : x = st := by omega
    exact g38_127 ⟨by omega, fun _ => ⟨rfl, h M' hfr hd ho⟩, fun c => by omega⟩
  | succ f ih =>
    intro x u4 u5 cl M' hf h1 h2 hfr hd ho
    by_cases e : x = st
    · subst e
      exact g38_127 ⟨by omega, fun _ => ⟨rfl, h M' hfr hd ho⟩, fun c => by omega⟩
    · have hr' := rwOk_fr hfr hr
      have hx := hr'.2.2.2.1 x h2
      have hub := pm_up_b (c := c) (d := d) (st := st) hg (x - st) (fun j hj => (hr.2.2.2.2 (st + j + 1) (by omega) (by omega)).2)
      have hdx := hx.2.2.2
      have hent : M'.1 10 (bN M x) 3 = (pm_up c d st given (x - st) : Int) := by
        rw [ho (bN M x) (fun q q1 q2 hq => by have := bN_inj hr.1 (by omega) (by omega) hq; omega)]
        exact hup x (by omega) h2
      have ebx : bN M' x = bN M x := bN_fr hfr x
      have hdn : ∀ m, m ≤ 8 → n - m ≥ st + 1 → pm_dn (fun q => pm_up c d st given (q - st)) d n m ≤ 1000000 := by
        intro m
        cases m with
        | zero => intro _ _; simp [pm_dn]
        | succ m =>
          intro hm1 hm2
          have := pm_up_b (c := c) (d := d) (st := st) hg (n - (m + 1) - st) (fun j hj => (hr.2.2.2.2 (st + j + 1) (by omega) (by omega)).2)
          simp only [pm_dn]; omega
      have hb2 : pm_dn (fun q => pm_up c d st given (q - st)) d n (n - (x + 1)) ≤ 1000000 := by
        by_cases ex : x + 1 = n
        · rw [show n - (x + 1) = 0 by omega]; simp [pm_dn]
        · exact hdn _ (by omega) (by omega)
      have es : pm_dn (fun q => pm_up c d st given (q - st)) d n (n - x) = min (pm_up c d st given (x - st)) (pm_dn (fun q => pm_up c d st given (q - st)) d n (n - (x + 1)) + d x) := by
        rw [show n - x = (n - (x + 1)) + 1 by omega]
        simp only [pm_dn]
        rw [show n - (n - (x + 1) + 1) = x by omega]
      refine g38_127 ⟨by omega, fun c => by omega, fun _ => c31 hr'.1 (by omega) ⟨_, rfl, fun _ => ?_⟩⟩
      show zF 37 [zR 8 0, zR 10 (bN M' x)] M' _
      refine c37 ⟨_, rfl, fun _ => ?_⟩
      rw [← hx.2.2.1]
      show zF 35 [zI (M'.1 10 (bN M' x) 3), zI _] M' _
      rw [ebx, hent]
      refine c35 (by omega) (by omega) ⟨_, rfl, fun _ => ?_⟩
      rw [z_w_get_eq]
      have hm := imin_r (pm_up c d st given (x - st) : Int) ((pm_dn (fun q => pm_up c d st given (q - st)) d n (n - (x + 1)) : Int) + (d x : Int))
      have ev : imin (pm_up c d st given (x - st) : Int) ((pm_dn (fun q => pm_up c d st given (q - st)) d n (n - (x + 1)) : Int) + (d x : Int)) = ((pm_dn (fun q => pm_up c d st given (q - st)) d n (n - x) : Nat) : Int) := by
        rw [es]; omega
      have h3 := ih (x - 1) (some (zR 10 (bN M x))) u5 false (z_w M' 10 (bN M x) 3 ((pm_dn (fun q => pm_up c d st given (q - st)) d n (n - x) : Nat) : Int)) (by omega) (by omega) (by omega) (hfr.w 10 _ 3 _ ⟨rfl, rfl⟩) (fun q q1 q2 => by
        by_cases eq : q = x
        · rw [eq, z_w_get_eq]
        · rw [z_w_get_ne (fun hq => eq (bN_inj hr.1 (by omega) (by omega) hq.2.1))]; exact hd q (by omega) q2) (fun b hb => by
        rw [z_w_get_ne (fun hq => hb x (by omega) h2 hq.2.1)]
        exact ho b (fun q q1 q2 => hb q (by omega) q2))
      rw [show x - 1 + 1 = x by omega, show ((x - 1 : Nat) : Int) = (x : Int) + (-1) by omega] at h3
      rw [ev, show bAt M' (x : Int) = bN M x from ebx]
      exact h3
theorem c38_up {M : zM} {c d : Nat → Nat} {st given n : Nat} {R : Option zV → zM → Prop} (hr : rwOk M c d st n) (hg : given ≤ 1000000) (hst : st < n)
    (h : ∀ M', zfr p38 zno M M' → M'.1 10 (bN M st) 3 = (given : Int) → (∀ q, st < q → q < n → M'.1 10 (bN M q) 3 = (pm_dn (fun q => pm_up c d st given (q - st)) d n (n - q) : Int)) → (∀ b, (∀ q, st ≤ q → q < n → ¬ b = bN M q) → M'.1 10 b 3 = M.1 10 b 3) → R none M') :
    ∀ (f x : Nat) (u3 u4 u5 : Option zV) (cl : Bool) (M' : zM), n - x ≤ f → st < x → x ≤ n → zfr p38 zno M M' → (∀ q, st ≤ q → q < x → M'.1 10 (bN M q) 3 = (pm_up c d st given (q - st) : Int)) → (∀ b, (∀ q, st ≤ q → q < n → ¬ b = bN M q) → M'.1 10 b 3 = M.1 10 b 3) →
      zT 38 (53, [some (zR 8 0), some (zI st), some (zI x), u3, u4, u5], [], M', cl) (zq R) := by
  have h8 := hr.2.2.1
  have done : ∀ (x : Nat) (u3 u4 u5 : Option zV) (cl : Bool) (M' : zM), x = n → zfr p38 zno M M' → (∀ q, st ≤ q → q < x → M'.1 10 (bN M q) 3 = (pm_up c d st given (q - st) : Int)) → (∀ b, (∀ q, st ≤ q → q < n → ¬ b = bN M q) → M'.1 10 b 3 = M.1 10 b 3) →
      zT 38 (53, [some (zR 8 0), some (zI st), some (zI x), u3, u4, u5], [], M', cl) (zq R) := by
    intro x u3 u4 u5 cl M' e hfr hu ho
    subst e
    have hr' := rwOk_fr hfr hr
    refine g38_53 ?_
    rw [hr'.2.1]
    refine ⟨by omega, fun _ => ?_, fun c => by omega⟩
    have eb : ∀ q, bN M' q = bN M q := bN_fr hfr
    have key := c38_dn (R := R) hr' hg hst (fun M'' hfr2 hd ho2 => h M'' (hfr.trans hfr2) (by
        rw [ho2 (bN M st) (fun q q1 q2 hq => by rw [eb] at hq; have := bN_inj hr.1 (by omega) (by omega) hq; omega), hu st (Nat.le_refl _) (by omega), Nat.sub_self]; rfl) (fun q q1 q2 => by
        have := hd q q1 q2; rw [eb] at this; exact this) (fun b hb => by
        rw [ho2 b (fun q q1 q2 => by rw [eb]; exact hb q (by omega) q2)]; exact ho b hb)) (fun q q1 q2 => by rw [eb]; exact hu q (by omega) q2) (x - 1) (x - 1) u4 u5 cl M' (by omega) (by omega) (by omega) (zfr.refl _ _ _) (fun q q1 q2 => by omega) (fun b _ => rfl)
    rw [show x - (x - 1 + 1) = 0 by omega, show ((x - 1 : Nat) : Int) = (x : Int) - 1 by omega] at key
    exact key
  intro f
  induction f with
  | zero => intro x u3 u4 u5 cl M' hf h1 h2 hfr hu ho; exact done x _ _ _ cl M' (by omega) hfr hu ho
  | succ f ih =>
    intro x u3 u4 u5 cl M' hf h1 h2 hfr hu ho
    by_cases e : x = n
    · exact done x _ _ _ cl M' e hfr hu ho
    · have hr' := rwOk_fr hfr hr
      have hx := hr'.2.2.2.1 x (by omega)
      have hx1 := hr'.2.2.2.1 (x - 1) (by omega)
      have hcx := hr'.2.2.2.2 x h1 (by omega)
      have eb : ∀ q, bN M' q = bN M q := bN_fr hfr
      have ex1 : ((x : Int) - 1) = ((x - 1 : Nat) : Int) := by omega
      have hub := pm_up_b (c := c) (d := d) (st := st) hg (x - 1 - st) (fun j hj => (hr.2.2.2.2 (st + j + 1) (by omega) (by omega)).2)
      have hjr := jn_r hx1.1 hx.1 hx1.2.1 hx.2.1
      have hm1 := imin_r (M'.1 10 (bN M' (x - 1)) 2) (M'.1 10 (bN M' x) 2)
      have hm2 := imin_r (M'.1 10 (bN M' x) 2) (jn (M'.1 11 (bN M' (x - 1))) (M'.1 11 (bN M' x)) (M'.1 10 (bN M' (x - 1)) 2) (M'.1 10 (bN M' x) 2))
      refine g38_53 ?_
      rw [hr'.2.1, ex1]
      refine ⟨by omega, fun c => by omega, fun _ => c31 hr'.1 (by omega) ⟨_, rfl, fun _ => c31 hr'.1 (by omega) ⟨_, rfl, fun _ => ?_⟩⟩⟩
      show zF 36 [zR 10 (bN M' (x - 1)), zR 10 (bN M' x)] M' _
      refine c36 hx1.1 hx.1 hx1.2.1 hx.2.1 ⟨_, rfl, fun _ => c35 (by show zr (M'.1 10 (bN M' x) 2); have := hx.2.1; omega) (by have := hx.2.1; have := hx1.2.1; omega) ⟨_, rfl, fun _ => ?_⟩⟩
      show zF 37 [zR 8 0, zR 10 (bN M' (x - 1))] M' _
      refine c37 ⟨_, rfl, fun _ => ?_⟩
      rw [← hx1.2.2.1]
      have hent : M'.1 10 (bAt M' ((x - 1 : Nat) : Int)) 3 = (pm_up c d st given (x - 1 - st) : Int) := by
        show M'.1 10 (bN M' (x - 1)) 3 = _
        rw [eb]; exact hu (x - 1) (by omega) (by omega)
      have hc1 : imin (M'.1 10 (bAt M' (x : Int)) 2) (jn (M'.1 11 (bN M' (x - 1))) (M'.1 11 (bN M' x)) (M'.1 10 (bN M' (x - 1)) 2) (M'.1 10 (bN M' x) 2)) = (c x : Int) := hcx.1.symm
      rw [hent, hc1]
      have hcb := hcx.2
      have hdb := hx1.2.2.2
      refine c35 (by omega) (by omega) ⟨_, rfl, fun _ => ?_⟩
      have es : pm_up c d st given (x - st) = min (c x) (pm_up c d st given (x - 1 - st) + d (x - 1)) := by
        rw [show x - st = (x - 1 - st) + 1 by omega]
        simp only [pm_up]
        rw [show st + (x - 1 - st) + 1 = x by omega, show st + (x - 1 - st) = x - 1 by omega]
      have hm := imin_r (c x : Int) ((pm_up c d st given (x - 1 - st) : Int) + (d (x - 1) : Int))
      have ev : imin (c x : Int) ((pm_up c d st given (x - 1 - st) : Int) + (d (x - 1) : Int)) = ((pm_up c d st given (x - st) : Nat) : Int) := by rw [es]; omega
      rw [ev, show bAt M' (x : Int) = bN M x from eb x]
      have h3 := ih (x + 1) (some (zR 10 (bAt M' ((x - 1 : Nat) : Int)))) (some (zR 10 (bN M x))) (some (zI (c x))) false (z_w M' 10 (bN M x) 3 ((pm_up c d st given (x - st) : Nat) : Int)) (by omega) (by omega) (by omega) (hfr.w 10 _ 3 _ ⟨rfl, rfl⟩) (fun q q1 q2 => by
        by_cases eq : q = x
        · rw [eq, z_w_get_eq]
        · rw [z_w_get_ne (fun hq => eq (bN_inj hr.1 (by omega) (by omega) hq.2.1))]; exact hu q q1 (by omega)) (fun b hb => by
        rw [z_w_get_ne (fun hq => hb x (by omega) (by omega) hq.2.1)]
        exact ho b hb)
      rw [show ((x + 1 : Nat) : Int) = (x : Int) + 1 by omega] at h3
      exact h3
