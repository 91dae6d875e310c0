-- The reference's reader of commands. (own work)
theorem nOf_ex {l : Nat → Int} {c : Int} : ∀ {k : Nat}, ¬ nOf l c k = 0 → ∃ i, 2 ≤ i ∧ i < k ∧ l i = c
  | 0, h => absurd rfl h
  | k + 1, h => by
    by_cases e : 2 ≤ k ∧ l k = c
    · exact ⟨k, e.1, by omega, e.2⟩
    · rw [nOf, if_neg e, Int.add_zero] at h
      obtain ⟨i, h1, h2, h3⟩ := nOf_ex h
      exact ⟨i, h1, by omega, h3⟩
theorem nOf_pos {l : Nat → Int} {c : Int} {i k : Nat} (h : 2 ≤ i) (hk : i < k) (hc : l i = c) : 1 ≤ nOf l c k := by
  have h6 := nOf_mono l c (j := i + 1) k (by omega)
  have hr := nOf_r l c i
  rw [nOf, if_pos ⟨h, hc⟩] at h6
  omega
theorem nOf_s (l : Nat → Int) (c : Int) (j : Nat) : nOf l c (2 + (j + 1)) = nOf l c (2 + j) + (if l (2 + j) = c then 1 else 0) := by
  show nOf l c ((2 + j) + 1) = _
  rw [nOf]
  by_cases e : l (2 + j) = c
  · rw [if_pos ⟨by omega, e⟩, if_pos e]
  · rw [if_neg (fun h => e h.2), if_neg e]
def is4 (c : Int) : Prop := c = 70 ∨ c = 88 ∨ c = 89 ∨ c = 69
def is3 (c : Int) : Prop := c = 88 ∨ c = 89 ∨ c = 69
def n4 (l : Nat → Int) (k : Nat) : Int := nOf l 88 k + nOf l 89 k + nOf l 69 k + nOf l 70 k
def n3 (l : Nat → Int) (k : Nat) : Int := nOf l 88 k + nOf l 89 k + nOf l 69 k
theorem n4_s (l : Nat → Int) (j : Nat) : (is4 (l (2 + j)) ∧ n4 l (2 + (j + 1)) = n4 l (2 + j) + 1) ∨ (¬ is4 (l (2 + j)) ∧ n4 l (2 + (j + 1)) = n4 l (2 + j)) := by
  unfold n4 is4
  rw [nOf_s, nOf_s, nOf_s, nOf_s]
  generalize l (2 + j) = x
  by_cases h1 : x = 70
  · subst h1; left; refine ⟨by omega, ?_⟩; rw [if_neg (by omega), if_neg (by omega), if_neg (by omega), if_pos rfl]; omega
  · by_cases h2 : x = 88
    · subst h2; left; refine ⟨by omega, ?_⟩; rw [if_pos rfl, if_neg (by omega), if_neg (by omega), if_neg (by omega)]; omega
    · by_cases h3 : x = 89
      · subst h3; left; refine ⟨by omega, ?_⟩; rw [if_neg (by omega), if_pos rfl, if_neg (by omega), if_neg (by omega)]; omega
      · by_cases h4 : x = 69
        · subst h4; left; refine ⟨by omega, ?_⟩; rw [if_neg (by omega), if_neg (by omega), if_pos rfl, if_neg (by omega)]; omega
        · right; refine ⟨by omega, ?_⟩; rw [if_neg h2, if_neg h3, if_neg h4, if_neg h1]; omega
theorem n3_s (l : Nat → Int) (j : Nat) : (is3 (l (2 + j)) ∧ n3 l (2 + (j + 1)) = n3 l (2 + j) + 1) ∨ (¬ is3 (l (2 + j)) ∧ n3 l (2 + (j + 1)) = n3 l (2 + j)) := by
  unfold n3 is3
  rw [nOf_s, nOf_s, nOf_s]
  generalize l (2 + j) = x
  by_cases h2 : x = 88
  · subst h2; left; refine ⟨by omega, ?_⟩; rw [if_pos rfl, if_neg (by omega), if_neg (by omega)]; omega
  · by_cases h3 : x = 89
    · subst h3; left; refine ⟨by omega, ?_⟩; rw [if_neg (by omega), if_pos rfl, if_neg (by omega)]; omega
    · by_cases h4 : x = 69
      · subst h4; left; refine ⟨by omega, ?_⟩; rw [if_neg (by omega), if_neg (by omega), if_pos rfl]; omega
      · right; refine ⟨by omega, ?_⟩; rw [if_neg h2, if_neg h3, if_neg h4]; omega
theorem cntg {P : Int → Prop} {l : Nat → Int} {N : Nat → Int} (h0 : N 2 = 0) (hs : ∀ j, (P (l (2 + j)) ∧ N (2 + (j + 1)) = N (2 + j) + 1) ∨ (¬ P (l (2 + j)) ∧ N (2 + (j + 1)) = N (2 + j))) : ∀ j : Nat, N (2 + j) ≤ j ∧ (N (2 + j) = j ↔ ∀ i, 2 ≤ i → i < 2 + j → P (l i))
  | 0 => by
    have e : N (2 + 0) = 0 := h0
    refine ⟨by omega, fun _ i h1 h2 => by omega, fun _ => by omega⟩
  | j + 1 => by
    obtain ⟨ih1, ih2⟩ := cntg h0 hs j
    rcases hs j with ⟨hp, e⟩ | ⟨hp, e⟩
    · refine ⟨by omega, fun h i h1 h2 => ?_, fun h => ?_⟩
      · by_cases ei : i = 2 + j
        · rw [ei]; exact hp
        · exact ih2.1 (by omega) i h1 (by omega)
      · have := ih2.2 (fun i h1 h2 => h i h1 (by omega))
        omega
    · refine ⟨by omega, fun h i h1 h2 => by omega, fun h => absurd (h (2 + j) (by omega) (by omega)) hp⟩
theorem cnt4 {l : Nat → Int} {k : Nat} (h : 2 ≤ k) : nOf l 88 k + nOf l 89 k + nOf l 69 k + nOf l 70 k = k - 2 ↔ ∀ i, 2 ≤ i → i < k → (l i = 70 ∨ l i = 88 ∨ l i = 89 ∨ l i = 69) := by
  have := (cntg (P := is4) (l := l) (N := n4 l) (by simp [n4, nOf]) (n4_s l) (k - 2)).2
  rw [show 2 + (k - 2) = k by omega, show ((k - 2 : Nat) : Int) = (k : Int) - 2 by omega] at this
  exact this
theorem cnt3 {l : Nat → Int} {k : Nat} (h : 2 ≤ k) : nOf l 88 k + nOf l 89 k + nOf l 69 k = k - 2 ↔ ∀ i, 2 ≤ i → i < k → (l i = 88 ∨ l i = 89 ∨ l i = 69) := by
  have := (cntg (P := is3) (l := l) (N := n3 l) (by simp [n3, nOf]) (n3_s l) (k - 2)).2
  rw [show 2 + (k - 2) = k by omega, show ((k - 2 : Nat) : Int) = (k : Int) - 2 by omega] at this
  exact this
def once (l : Nat → Int) (W : Nat) : Prop := nOf l 88 W < 2 ∧ nOf l 89 W < 2 ∧ nOf l 69 W < 2 ∧ nOf l 70 W < 2
theorem cOk_9 {l v : Nat → Int} {W : Nat} (h2 : 2 ≤ W) (h71 : l 1 = 71) (hg : v 1 = 90 ∨ v 1 = 91) : cOk l v W ↔ W = 2 := by
  constructor
  · intro h
    by_cases e : W = 2
    · exact e
    · have := h.2.2.1.1 2 (by omega) (by omega)
      unfold may at this; omega
  · intro e
    subst e
    refine ⟨h2, h71, ⟨fun i h1 h2 => by omega, fun c => by simp [nOf]⟩, by unfold known; omega, fun h => by omega, fun h => ?_, fun h => ?_⟩
    · simp [nOf] at h
    · simp [nOf] at h
theorem cOk_4 {l v : Nat → Int} {W : Nat} (h2 : 2 ≤ W) (h71 : l 1 = 71) (hg : v 1 = 4) : cOk l v W ↔ W = 3 ∧ l 2 = 80 ∧ 0 < v 2 ∧ v 2 < 201 := by
  constructor
  · intro h
    have hnum := h.2.2.2.2
    have hn := hnum.1 hg
    obtain ⟨i, hi1, hi2, hi3⟩ := nOf_ex hn
    have hW : W = 3 := by
      by_cases e : W = 3
      · exact e
      · have m2 := h.2.2.1.1 2 (by omega) (by omega)
        have m3 := h.2.2.1.1 3 (by omega) (by omega)
        have e2 : l 2 = 80 := by unfold may at m2; omega
        have e3 : l 3 = 80 := by unfold may at m3; omega
        have h4 := nOf_mono l 80 (j := 4) W (by omega)
        have h5 := h.2.2.1.2 80
        have h6 : nOf l 80 4 = 2 := by simp [nOf, e2, e3]
        omega
    subst hW
    have m2 := h.2.2.1.1 2 (by omega) (by omega)
    have e2 : l 2 = 80 := by unfold may at m2; omega
    have hv := hnum.2.1 hn
    rw [show tdOf l v 80 0 3 = v 2 by simp [tdOf, e2]] at hv
    exact ⟨rfl, e2, by omega, by omega⟩
  · rintro ⟨rfl, e2, h3, h4⟩
    refine ⟨h2, h71, ⟨fun i h1 h2 => ?_, fun c => ?_⟩, by unfold known; omega, fun _ => by simp [nOf, e2], fun _ => ?_, fun h => ?_⟩
    · rw [show i = 2 by omega, e2, hg]; unfold may; omega
    · simp only [nOf]; split <;> split <;> split <;> omega
    · rw [show tdOf l v 80 0 3 = v 2 by simp [tdOf, e2]]; omega
    · exfalso; apply h; simp [nOf, e2]
theorem cOk_92 {l v : Nat → Int} {W : Nat} (h2 : 2 ≤ W) (h71 : l 1 = 71) (hg : v 1 = 92) : cOk l v W ↔ once l W ∧ (W : Int) = 2 + nOf l 88 W + nOf l 89 W + nOf l 69 W := by
  have hc := cnt3 (l := l) h2
  constructor
  · intro h
    have hall : ∀ i, 2 ≤ i → i < W → (l i = 88 ∨ l i = 89 ∨ l i = 69) := fun i h1 h2 => by
      have := h.2.2.1.1 i h1 h2
      unfold may at this; omega
    have := hc.2 hall
    have ho := h.2.2.1.2
    have o1 := ho 88; have o2 := ho 89; have o3 := ho 69; have o4 := ho 70
    exact ⟨⟨by omega, by omega, by omega, by omega⟩, by omega⟩
  · rintro ⟨ho, hW⟩
    have hall := hc.1 (by omega)
    have no : ∀ c, ¬ (c = 88 ∨ c = 89 ∨ c = 69) → nOf l c W = 0 := by
      intro c hcc
      by_cases q : nOf l c W = 0
      · exact q
      · obtain ⟨i, hi1, hi2, hi3⟩ := nOf_ex q
        have := hall i hi1 hi2; omega
    unfold once at ho
    refine ⟨h2, h71, ⟨fun i h1 h2 => ?_, fun c => ?_⟩, by unfold known; omega, fun h => by omega, fun h => absurd (no 80 (by omega)) h, fun h => absurd (no 70 (by omega)) h⟩
    · have := hall i h1 h2; unfold may; omega
    · by_cases q : c = 88 ∨ c = 89 ∨ c = 69
      · rcases q with q | q | q <;> subst q <;> omega
      · rw [no c q]; omega
theorem cOk_1 {l v : Nat → Int} {W : Nat} (h2 : 2 ≤ W) (h71 : l 1 = 71) (hg : v 1 = 1) : cOk l v W ↔ once l W ∧ (W : Int) = 2 + nOf l 88 W + nOf l 89 W + nOf l 69 W + nOf l 70 W ∧ 1 ≤ tdOf l v 70 1 W ∧ tdOf l v 70 1 W ≤ 1000 := by
  have hc := cnt4 (l := l) h2
  constructor
  · intro h
    have hall : ∀ i, 2 ≤ i → i < W → (l i = 70 ∨ l i = 88 ∨ l i = 89 ∨ l i = 69) := fun i h1 h2 => by
      have := h.2.2.1.1 i h1 h2
      unfold may at this; omega
    have := hc.2 hall
    have ho := h.2.2.1.2
    have o1 := ho 88; have o2 := ho 89; have o3 := ho 69; have o4 := ho 70
    refine ⟨⟨by omega, by omega, by omega, by omega⟩, by omega, ?_⟩
    by_cases q : nOf l 70 W = 0
    · rw [tdOf_0 q]; omega
    · rw [tdOf_d (d' := 0) q]; exact h.2.2.2.2.2.2 q
  · rintro ⟨ho, hW, hf⟩
    have hall := hc.1 (by omega)
    have no : ∀ c, ¬ (c = 70 ∨ c = 88 ∨ c = 89 ∨ c = 69) → nOf l c W = 0 := by
      intro c hcc
      by_cases q : nOf l c W = 0
      · exact q
      · obtain ⟨i, hi1, hi2, hi3⟩ := nOf_ex q
        have := hall i hi1 hi2; omega
    unfold once at ho
    refine ⟨h2, h71, ⟨fun i h1 h2 => ?_, fun c => ?_⟩, by unfold known; omega, fun h => by omega, fun h => absurd (no 80 (by omega)) h, fun h => ?_⟩
    · have := hall i h1 h2; unfold may; omega
    · by_cases q : c = 70 ∨ c = 88 ∨ c = 89 ∨ c = 69
      · rcases q with q | q | q | q <;> subst q <;> omega
      · rw [no c q]; omega
    · rw [tdOf_d (d' := 1) h]; exact hf
theorem c55 {M : zM} {l v : Nat → Int} {W : Nat} {c : Int} {R : Option zV → zM → Prop} (hT : mW M l v W) (hw : wds l v W) (hc : zr c) (h2 : 2 ≤ W) (h : R (some (zI (nOf l c W))) M) : zF 55 [zR 18 0, zI c] M R := by
  have hn := hT.1
  have h40 := hw.1
  refine g55_0 ?_
  have loop : ∀ (f k : Nat) (cl : Bool), W - k ≤ f → 2 ≤ k → k ≤ W → zT 55 (4, [some (zR 18 0), some (zI c), some (zI (nOf l c k)), some (zI k)], [], M, cl) (zq R) := by
    intro f
    induction f with
    | zero =>
      intro k cl hf h2 hk
      refine g55_4 ⟨by omega, fun _ => ⟨rfl, ?_⟩, fun c => by omega⟩
      rw [show k = W by omega]; exact h
    | succ f ih =>
      intro k cl hf h2 hk
      refine g55_4 ⟨by omega, fun _ => ⟨rfl, ?_⟩, fun c2 => ⟨by omega, ?_⟩⟩
      · rw [show k = W by omega]; exact h
      · have hl := (hT.2 k (by omega)).1
        have hr := (hw.2 k (by omega)).1
        have h3 := ih (k + 1) cl (by omega) (by omega) (by omega)
        rw [show ((k + 1 : Nat) : Int) = (k : Int) + 1 by omega, nOf] at h3
        rw [Int.toNat_natCast, hl]
        refine ⟨by omega, fun c3 => ?_, fun c3 => ?_⟩
        · rw [if_neg (by omega)] at h3; exact h3
        · rw [if_pos ⟨h2, c3⟩] at h3; exact h3
  exact loop W 2 true (by omega) (Nat.le_refl _) h2
theorem c56 {M : zM} {l v : Nat → Int} {W : Nat} {c d : Int} {R : Option zV → zM → Prop} (hT : mW M l v W) (hw : wds l v W) (hc : zr c) (h2 : 2 ≤ W) (h : R (some (zI (tdOf l v c d W))) M) : zF 56 [zR 18 0, zI c, zI d] M R := by
  have hn := hT.1
  have h40 := hw.1
  refine g56_0 ?_
  have loop : ∀ (f k : Nat) (cl : Bool), W - k ≤ f → 2 ≤ k → k ≤ W → zT 56 (5, [some (zR 18 0), some (zI c), some (zI d), some (zI (tdOf l v c d k)), some (zI k)], [], M, cl) (zq R) := by
    intro f
    induction f with
    | zero =>
      intro k cl hf h2 hk
      refine g56_5 ⟨by omega, fun _ => ⟨rfl, ?_⟩, fun c => by omega⟩
      rw [show k = W by omega]; exact h
    | succ f ih =>
      intro k cl hf h2 hk
      refine g56_5 ⟨by omega, fun _ => ⟨rfl, ?_⟩, fun c2 => ⟨by omega, ?_⟩⟩
      · rw [show k = W by omega]; exact h
      · have hl := hT.2 k (by omega)
        have hr := (hw.2 k (by omega)).1
        have h3 := ih (k + 1) cl (by omega) (by omega) (by omega)
        rw [show ((k + 1 : Nat) : Int) = (k : Int) + 1 by omega, tdOf] at h3
        rw [Int.toNat_natCast, hl.1, hl.2]
        refine ⟨by omega, fun c3 => ?_, fun c3 => ⟨by omega, ?_⟩⟩
        · rw [if_neg (by omega)] at h3; exact h3
        · rw [if_pos ⟨h2, c3⟩] at h3; exact h3
  exact loop W 2 true (by omega) (Nat.le_refl _) h2
theorem c57 {M : zM} {l v : Nat → Int} {W : Nat} {R : Option zV → zM → Prop} (hT : mW M l v W) (hw : wds l v W) (h1 : cOk l v W → R (some (zI 1)) M) (h0 : ¬ cOk l v W → R (some (zI 0)) M) : zF 57 [zR 18 0] M R := by
  have hn := hT.1
  have h40 := hw.1
  refine g57_0 ?_
  rw [hn]
  refine ⟨by omega, fun c => ⟨rfl, h0 fun q => by have := q.1; omega⟩, fun c => ?_⟩
  have hl1 := hT.2 1 (by omega)
  have hr1 := hw.2 1 (by omega)
  have h2 : 2 ≤ W := by omega
  rw [hl1.1]
  refine ⟨by omega, fun c1 => ?_, fun c1 => ⟨rfl, h0 fun q => c1 q.2.1⟩⟩
  have x1 := nOf_r l 88 W
  have x2 := nOf_r l 89 W
  have x3 := nOf_r l 69 W
  have x4 := nOf_r l 70 W
  have rest : ∀ (s : Int) (cl : Bool), (s = 0 ∧ ¬ once l W ∨ s = 1 ∧ once l W) → zT 57 (76, [some (zR 18 0), some (zI (nOf l 88 W)), some (zI (nOf l 89 W)), some (zI (nOf l 69 W)), some (zI (nOf l 70 W)), none, none], [zI s], M, cl) (zq R) := by
    intro s cl hs
    refine g57_76 ?_
    rw [hl1.2, hn]
    have t1 := tdOf_r (l := l) (c := 70) (d := 1) (a := -99999) (b := 99999) (k := W) (by omega) (fun i hi => (hw.2 i hi).2)
    refine ⟨by omega, fun e => ?_, fun e => ⟨by omega, fun e2 => ⟨by omega, fun e3 => ⟨by omega, fun e4 => ⟨by omega, fun e5 => ⟨rfl, h0 fun q => ?_⟩, fun e5 => ?_⟩, fun e4 => ?_⟩, fun e3 => ?_⟩, fun e2 => ?_⟩⟩
    · rw [cOk_9 h2 c1 (Or.inl e)] at h1 h0
      exact ⟨by omega, fun c => ⟨rfl, h0 (by omega)⟩, fun c => ⟨rfl, h1 (by omega)⟩⟩
    · have := q.2.2.2.1; unfold known at this; omega
    · rw [cOk_1 h2 c1 e5] at h1 h0
      refine ⟨by omega, fun c => ⟨rfl, h0 fun q => ?_⟩, fun c => ⟨by omega, fun c2 => ⟨rfl, h0 fun q => c2 (by omega)⟩, fun c2 => ?_⟩⟩
      · rcases hs with hs | hs
        · exact hs.2 q.1
        · omega
      · have ho : once l W := by
          rcases hs with hs | hs
          · omega
          · exact hs.2
        refine c56 hT hw (by omega) h2 ⟨_, rfl, fun _ => ⟨by omega, fun c3 => ⟨rfl, h0 fun q => by omega⟩, fun c3 => c56 hT hw (by omega) h2 ⟨_, rfl, fun _ => ⟨by omega, fun c4 => ⟨rfl, h0 fun q => by omega⟩, fun c4 => ⟨rfl, h1 ⟨ho, by omega, by omega, by omega⟩⟩⟩⟩⟩⟩
    · rw [cOk_92 h2 c1 e4] at h1 h0
      refine ⟨by omega, fun c => ⟨rfl, h0 fun q => ?_⟩, fun c => ⟨by omega, fun c2 => ⟨rfl, h0 fun q => c2 (by omega)⟩, fun c2 => ⟨rfl, h1 ⟨?_, by omega⟩⟩⟩⟩
      · rcases hs with hs | hs
        · exact hs.2 q.1
        · omega
      · rcases hs with hs | hs
        · omega
        · exact hs.2
    · rw [cOk_4 h2 c1 e3] at h1 h0
      refine ⟨by omega, fun c => ⟨rfl, h0 fun q => by omega⟩, fun c => ?_⟩
      have hl2 := hT.2 2 (by omega)
      have hr2 := hw.2 2 (by omega)
      rw [hl2.1, hl2.2]
      exact ⟨by omega, fun c => ⟨rfl, h0 fun q => by omega⟩, fun c => ⟨by omega, fun c => ⟨rfl, h0 fun q => by omega⟩, fun c => ⟨by omega, fun c => ⟨rfl, h0 fun q => by omega⟩, fun c => ⟨rfl, h1 (by omega)⟩⟩⟩⟩
    · rw [cOk_9 h2 c1 (Or.inr e2)] at h1 h0
      exact ⟨by omega, fun c => ⟨rfl, h0 (by omega)⟩, fun c => ⟨rfl, h1 (by omega)⟩⟩
  refine c55 hT hw (by omega) h2 ⟨_, rfl, fun _ => c55 hT hw (by omega) h2 ⟨_, rfl, fun _ => c55 hT hw (by omega) h2 ⟨_, rfl, fun _ => c55 hT hw (by omega) h2 ⟨_, rfl, fun cl => ?_⟩⟩⟩⟩
  refine ⟨by omega, fun c => rest 0 cl (Or.inl ⟨rfl, ?_⟩), fun c => ⟨by omega, fun c => rest 0 cl (Or.inl ⟨rfl, ?_⟩), fun c => ⟨by omega, fun c => rest 0 cl (Or.inl ⟨rfl, ?_⟩), fun c => ⟨by omega, fun c => rest 0 cl (Or.inl ⟨rfl, ?_⟩), fun c => rest 1 cl (Or.inr ⟨rfl, ?_⟩)⟩⟩⟩⟩ <;> (unfold once; omega)
