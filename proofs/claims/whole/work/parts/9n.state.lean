-- The state, abstractly: n blocks; D, L, F; at work w, entry e, exit x, steps made md, ticks to wait wt; place P, goal G; held, off, cut; ended, slots; length of the text. (own work)
abbrev aS : Type := Nat × ((Nat → Nat → Int) × (Nat → Int) × (Nat → Int)) × (Int × Nat × Nat × Int × Int) × ((Nat → Int) × (Nat → Int)) × (Int × Int × Int) × (Int × (Nat → Int)) × Int
abbrev cWk (M : zM) (n : Nat) (c d : Nat → Nat) (w : Int) (e x : Nat) (md wt : Int) : Prop := M.1 8 0 4 = w ∧ (w = 0 → cEnt M n c d 0 0) ∧ (w = 1 → M.1 10 (bN M 0) 3 = (e : Int) ∧ M.1 10 (bN M 0) 4 = (x : Int) ∧ cEnt M n c d 1 x ∧ M.1 8 0 5 = md ∧ M.1 8 0 6 = wt)
abbrev cRs (M : zM) (P G : Nat → Int) (hd of cu en : Int) (sl : Nat → Int) (tl : Int) : Prop := (∀ q, q < 3 → M.1 14 0 q = P q ∧ M.1 15 0 q = G q) ∧ M.1 0 0 11 = hd ∧ M.1 0 0 9 = 1 - of ∧ M.1 0 0 15 = cu ∧ M.1 12 0 1 = en ∧ (∀ k, k < 8 → M.1 13 0 k = sl k) ∧ M.1 1 0 1 = tl
def cS (M : zM) (a : Int) : aS → Prop
  | (n, (D, L, F), (w, e, x, md, wt), (P, G), (hd, of, cu), (en, sl), tl) => cRow M n D L F ∧ M.1 8 0 1 = a ∧ cWk M n (qC D F) (qD a L) w e x md wt ∧ cRs M P G hd of cu en sl tl
abbrev mWk (M : zM) (D0 : Nat → Int) (L0 : Int) (P : Nat → Int) (w : Int) (e x : Nat) (md wt : Int) : Prop := M.1 18 0 19 = w ∧ (w = 1 → M.2.1 18 0 20 = (e : Int) ∧ M.2.1 18 0 21 = (x : Int) ∧ M.1 18 0 23 = md ∧ M.1 18 0 24 = wt ∧ ∀ q, q < 3 → M.1 29 0 q = P q - sAf (D0 q) L0 md)
abbrev mRs (M : zM) (P G : Nat → Int) (hd of cu en : Int) (sl : Nat → Int) (tl : Int) : Prop := (∀ q, q < 3 → M.1 23 0 q = P q ∧ M.1 24 0 q = G q) ∧ M.1 18 0 25 = hd ∧ M.1 18 0 26 = of ∧ M.1 18 0 28 = cu ∧ M.1 18 0 29 = en ∧ (∀ k, k < 8 → M.1 30 0 k = sl k) ∧ M.1 18 0 2 = tl
def mS (M : zM) (a : Int) : aS → Prop
  | (n, (D, L, F), (w, e, x, md, wt), (P, G), (hd, of, cu), (en, sl), tl) => mRow M n D L F ∧ M.1 18 0 0 = a ∧ mWk M (D 0) (L 0) P w e x md wt ∧ mRs M P G hd of cu en sl tl
-- where the blocks lead
def sD (D : Nat → Nat → Int) (q : Nat) : Nat → Int
  | 0 => 0
  | i + 1 => sD D q i + D i q
theorem sD_sh (D : Nat → Nat → Int) (q : Nat) : ∀ i, sD (fun k => D (k + 1)) q i + D 0 q = sD D q (i + 1)
  | 0 => by simp [sD]
  | i + 1 => by
    have h := sD_sh D q i
    simp only [sD] at h ⊢
    omega
abbrev bsA (D0 : Nat → Int) (L0 : Int) (P : Nat → Int) (w md : Int) (q : Nat) : Int := if w = 1 then P q - sAf (D0 q) L0 md else P q
abbrev iCn (n : Nat) (D : Nat → Nat → Int) (G : Nat → Int) (B : Nat → Int) : Prop := ∀ q, q < 3 → (∀ i, i ≤ n → -99999 ≤ B q + sD D q i ∧ B q + sD D q i ≤ 99999) ∧ B q + sD D q n = G q
abbrev iWk (n : Nat) (F0 L0 : Int) (w : Int) (e x : Nat) (md wt : Int) : Prop := (w = 0 ∨ w = 1) ∧ (w = 1 → 1 ≤ n ∧ e ≤ 1000000 ∧ x ≤ 1000000 ∧ 0 ≤ md ∧ (1 ≤ F0 → md + 1 ≤ L0) ∧ (F0 = 0 → md = 0) ∧ 1 ≤ wt ∧ wt ≤ 1000)
abbrev iSl (en : Int) (sl : Nat → Int) : Prop := (∀ s, s < 2 → ∀ q, q < 3 → -99999 ≤ sl (s * 4 + q) ∧ sl (s * 4 + q) ≤ 99999) ∧ (0 ≤ sl 3 ∧ sl 3 ≤ en ∧ sl 3 % 2 = 0) ∧ (0 ≤ sl 7 ∧ sl 7 ≤ en ∧ (sl 7 = 0 ∨ sl 7 % 2 = 1))
def iS (a : Int) (K : Int) : aS → Prop
  | (n, (D, L, F), (w, e, x, md, wt), (P, G), (hd, of, cu), (en, sl), tl) => (1 ≤ a ∧ a ≤ 1000) ∧ n ≤ 8 ∧ okB n D L F ∧ iWk n (F 0) (L 0) w e x md wt ∧ iCn n D G (bsA (D 0) (L 0) P w md) ∧
    (hd = 0 ∨ hd = 1) ∧ (of = 0 ∨ of = 1) ∧ (-1 ≤ cu ∧ cu ≤ 5) ∧ (of = 1 → n = 0) ∧ iSl en sl ∧ (0 ≤ en ∧ en + n ≤ K ∧ K ≤ 10000)
-- frames
abbrev hiK (P : Nat → Nat → Prop) : Prop := ∀ k s, P k s → 18 ≤ k
abbrev loK (P : Nat → Nat → Prop) : Prop := ∀ k s, P k s → k < 18
theorem cRow_eq {M M' : zM} {n : Nat} {D : Nat → Nat → Int} {L F : Nat → Int} (h8 : M'.1 8 0 2 = M.1 8 0 2) (h83 : M'.1 8 0 3 = M.1 8 0 3) (h11 : ∀ b s, M'.1 11 b s = M.1 11 b s) (h1 : ∀ b, M'.1 10 b 1 = M.1 10 b 1) (h2 : ∀ b, M'.1 10 b 2 = M.1 10 b 2) (h : cRow M n D L F) : cRow M' n D L F := by
  have eb : ∀ i, bN M' i = bN M i := fun i => by unfold bN bAt; rw [h8]
  refine ⟨by rw [h8]; exact h.1, by rw [h83]; exact h.2.1, h.2.2.1, fun i hi => ?_⟩
  rw [eb, h1, h2]
  exact ⟨fun q hq => by rw [h11]; exact (h.2.2.2 i hi).1 q hq, (h.2.2.2 i hi).2⟩
theorem cEnt_eq {M M' : zM} {n : Nat} {c d : Nat → Nat} {st g : Nat} (h8 : M'.1 8 0 2 = M.1 8 0 2) (h3 : ∀ i, st ≤ i → i < n → M'.1 10 (bN M i) 3 = M.1 10 (bN M i) 3) (h : cEnt M n c d st g) : cEnt M' n c d st g := by
  intro i i1 i2
  have eb : bN M' i = bN M i := by unfold bN bAt; rw [h8]
  rw [eb, h3 i i1 i2]; exact h i i1 i2
theorem cS_fr {P PL : Nat → Nat → Prop} {M M' : zM} {a : Int} {s : aS} (h : zfr P PL M M') (hP : hiK P) (hs : cS M a s) : cS M' a s := by
  obtain ⟨n, ⟨D, L, F⟩, ⟨w, e, x, md, wt⟩, ⟨P', G⟩, ⟨hd, of, cu⟩, ⟨en, sl⟩, tl⟩ := s
  have k : ∀ k, k < 18 → ∀ j s, M'.1 k j s = M.1 k j s := fun k hk j s => h.1 k j s (fun hp => by have := hP k s hp; omega)
  have eb : ∀ i, bN M' i = bN M i := fun i => by unfold bN bAt; rw [k 8 (by omega)]
  obtain ⟨h1, h2, ⟨h3, h4, h5⟩, h6, h7, h8, h9, h10, h11, h12⟩ := hs
  refine ⟨cRow_eq (k 8 (by omega) _ _) (k 8 (by omega) _ _) (fun b s => k 11 (by omega) _ _) (fun b => k 10 (by omega) _ _) (fun b => k 10 (by omega) _ _) h1, by rw [k 8 (by omega)]; exact h2, ⟨by rw [k 8 (by omega)]; exact h3, fun c => cEnt_eq (k 8 (by omega) _ _) (fun i _ _ => k 10 (by omega) _ _) (h4 c), fun c => ?_⟩, fun q hq => ?_, ?_⟩
  · obtain ⟨g1, g2, g3, g4, g5⟩ := h5 c
    rw [eb, k 10 (by omega), k 10 (by omega), k 8 (by omega), k 8 (by omega)]
    exact ⟨g1, g2, cEnt_eq (k 8 (by omega) _ _) (fun i _ _ => k 10 (by omega) _ _) g3, g4, g5⟩
  · rw [k 14 (by omega), k 15 (by omega)]; exact h6 q hq
  · rw [k 0 (by omega), k 0 (by omega), k 0 (by omega), k 12 (by omega), k 1 (by omega)]
    exact ⟨h7, h8, h9, h10, fun q hq => by rw [k 13 (by omega)]; exact h11 q hq, h12⟩
theorem mRow_eq {M M' : zM} {n : Nat} {D : Nat → Nat → Int} {L F : Nat → Int} (h15 : M'.1 18 0 15 = M.1 18 0 15) (h26 : ∀ s, M'.1 26 0 s = M.1 26 0 s) (h27 : ∀ s, M'.1 27 0 s = M.1 27 0 s) (h28 : ∀ s, M'.1 28 0 s = M.1 28 0 s) (h : mRow M n D L F) : mRow M' n D L F := by
  obtain ⟨h1, h2, h3, h4⟩ := h
  refine ⟨by rw [h15]; exact h1, h2, fun j hj => by rw [h26]; exact h3 j hj, fun i hi => ?_⟩
  have g := h4 i hi
  unfold mF mB at g ⊢
  rw [h27, h28]
  exact ⟨g.1, g.2.1, fun hf q hq => by rw [h26]; exact g.2.2 hf q hq⟩
theorem mS_fr {P PL : Nat → Nat → Prop} {M M' : zM} {a : Int} {s : aS} (h : zfr P PL M M') (hP : loK P) (hL : ∀ k s, PL k s → ¬ k = 18) (hs : mS M a s) : mS M' a s := by
  obtain ⟨n, ⟨D, L, F⟩, ⟨w, e, x, md, wt⟩, ⟨P', G⟩, ⟨hd, of, cu⟩, ⟨en, sl⟩, tl⟩ := s
  have k : ∀ k, 18 ≤ k → ∀ j s, M'.1 k j s = M.1 k j s := fun k hk j s => h.1 k j s (fun hp => by have := hP k s hp; omega)
  have l : ∀ j s, M'.2.1 18 j s = M.2.1 18 j s := fun j s => h.2.1 18 j s (fun hp => hL 18 s hp rfl)
  obtain ⟨h1, h2, ⟨h3, h5⟩, h6, h7, h8, h9, h10, h11, h12⟩ := hs
  refine ⟨mRow_eq (k 18 (by omega) _ _) (fun s => k 26 (by omega) _ _) (fun s => k 27 (by omega) _ _) (fun s => k 28 (by omega) _ _) h1, by rw [k 18 (by omega)]; exact h2, ⟨by rw [k 18 (by omega)]; exact h3, fun c => ?_⟩, fun q hq => ?_, ?_⟩
  · obtain ⟨g1, g2, g3, g4, g5⟩ := h5 c
    rw [l, l, k 18 (by omega), k 18 (by omega)]
    exact ⟨g1, g2, g3, g4, fun q hq => by rw [k 29 (by omega)]; exact g5 q hq⟩
  · rw [k 23 (by omega), k 24 (by omega)]; exact h6 q hq
  · rw [k 18 (by omega), k 18 (by omega), k 18 (by omega), k 18 (by omega), k 18 (by omega)]
    exact ⟨h7, h8, h9, h10, fun q hq => by rw [k 30 (by omega)]; exact h11 q hq, h12⟩
