-- Targets of moves: the class's findTarget and isTargetPossible, the reference's leads. (own work)
def tgt (l v : Nat → Int) (W : Nat) (d o z : Int) (a : Int) : Int := if nOf l (z_chr a) W = 0 then o else tdOf l v (z_chr a) 0 W + (if d = 0 then z else o)
theorem tgt_0 {l v : Nat → Int} {W : Nat} {d o z a : Int} (h : nOf l (z_chr a) W = 0) : tgt l v W d o z a = o := by rw [tgt, if_pos h]
theorem tgt_n {l v : Nat → Int} {W : Nat} {d o z a : Int} (h : ¬ nOf l (z_chr a) W = 0) (hd : ¬ d = 0) : tgt l v W d o z a = tdOf l v (z_chr a) 0 W + o := by rw [tgt, if_neg h, if_neg hd]
theorem tgt_z {l v : Nat → Int} {W : Nat} {d o z a : Int} (h : ¬ nOf l (z_chr a) W = 0) (hd : d = 0) : tgt l v W d o z a = tdOf l v (z_chr a) 0 W + z := by rw [tgt, if_neg h, if_pos hd]
theorem z_chr_r (a : Int) : 65 ≤ z_chr a ∧ z_chr a ≤ 90 := by unfold z_chr; split <;> (try split) <;> omega
abbrev rA (x : Int) : Prop := -1000000 ≤ x ∧ x ≤ 1000000
theorem c26_a0 {M : zM} {l v : Nat → Int} {W : Nat} {x1 : Int} {u3 u4 : Option zV} {cl : Bool} {Q : zQ} (hm : cmdT M l v W) (hv : ∀ i, i < W → -99999 ≤ v i ∧ v i ≤ 99999) (ho : rA (M.1 15 0 0)) (hz : rA (M.1 16 0 0)) (hd : M.1 0 0 12 = 0 ∨ M.1 0 0 12 = 1) (hx : x1 = 0 ∨ x1 = 1)
    (h : ∀ (u3 u4 : Option zV) (cl : Bool), zT 26 (4, [some (zR 0 0), some (zI (if x1 = 0 ∧ tgt l v W (M.1 0 0 12) (M.1 15 0 0) (M.1 16 0 0) 0 = M.1 15 0 0 then 0 else 1)), some (zI 1), u3, u4], [], z_w M 17 0 0 (tgt l v W (M.1 0 0 12) (M.1 15 0 0) (M.1 16 0 0) 0), cl) Q) :
    zT 26 (4, [some (zR 0 0), some (zI x1), some (zI 0), u3, u4], [], M, cl) Q := by
  have hr := z_chr_r 0
  have ht := tdOf_r (l := l) (c := z_chr 0) (d := 0) (a := -99999) (b := 99999) (k := W) (by omega) hv
  have hm1 : cmdT (z_w M 17 0 0 (M.1 15 0 0)) l v W := hm
  refine g26_4a0 (c20 hm1 hr ⟨_, rfl, fun cl1 => ⟨by split <;> omega, fun e => ?_, fun e => ?_⟩⟩)
  · have hn : nOf l (z_chr 0) W = 0 := by
      by_cases q : nOf l (z_chr 0) W = 0
      · exact q
      · rw [if_neg q] at e; omega
    rw [tgt_0 hn] at h
    refine ⟨by omega, fun e1 => ?_, fun e1 => ⟨by show zr (M.1 15 0 0) ∧ _; omega, fun e2 => ?_, fun e2 => absurd rfl e2⟩⟩
    · have h1 := h (some (zI (z_chr 0))) (some (zI (M.1 15 0 0))) cl1
      rw [if_neg (by omega)] at h1; exact h1
    · have h1 := h (some (zI (z_chr 0))) (some (zI (M.1 15 0 0))) cl1
      rw [if_pos ⟨e1, rfl⟩] at h1; exact h1
  · have hn : ¬ nOf l (z_chr 0) W = 0 := by
      intro q; rw [if_pos q] at e; exact absurd rfl e
    have ev := cmdT_v hm hr hn
    refine c22 hr ⟨_, rfl, fun cl2 => ?_⟩
    have ev2 : (z_w M 17 0 0 (M.1 15 0 0)).1 7 0 (z_chr 0 - 65).toNat = tdOf l v (z_chr 0) 0 W := ev
    rw [ev2]
    have ed : (z_w M 17 0 0 (M.1 15 0 0)).1 0 0 12 = M.1 0 0 12 := rfl
    have ez : (z_w M 17 0 0 (M.1 15 0 0)).1 16 0 0 = M.1 16 0 0 := rfl
    rw [ed, ez, z_w_w, z_w_w]
    refine ⟨by omega, fun e1 => ?_, fun e1 => ?_⟩
    · rw [tgt_z hn e1] at h
      refine ⟨by omega, fun e2 => ?_, fun e2 => ⟨by omega, fun e3 => ?_, fun e3 => ?_⟩⟩
      · have h1 := h (some (zI (z_chr 0))) (some (zI (M.1 15 0 0))) false
        rw [if_neg (by omega)] at h1; exact h1
      · have h1 := h (some (zI (z_chr 0))) (some (zI (M.1 15 0 0))) false
        rw [if_pos ⟨e2, e3⟩] at h1; exact h1
      · have h1 := h (some (zI (z_chr 0))) (some (zI (M.1 15 0 0))) false
        rw [if_neg (fun q => e3 q.2)] at h1; exact h1
    · rw [tgt_n hn e1] at h
      refine ⟨by omega, fun e2 => ?_, fun e2 => ⟨by omega, fun e3 => ?_, fun e3 => ?_⟩⟩
      · have h1 := h (some (zI (z_chr 0))) (some (zI (M.1 15 0 0))) false
        rw [if_neg (by omega)] at h1; exact h1
      · have h1 := h (some (zI (z_chr 0))) (some (zI (M.1 15 0 0))) false
        rw [if_pos ⟨e2, e3⟩] at h1; exact h1
      · have h1 := h (some (zI (z_chr 0))) (some (zI (M.1 15 0 0))) false
        rw [if_neg (fun q => e3 q.2)] at h1; exact h1
theorem c26_a1 {M : zM} {l v : Nat → Int} {W : Nat} {x1 : Int} {u3 u4 : Option zV} {cl : Bool} {Q : zQ} (hm : cmdT M l v W) (hv : ∀ i, i < W → -99999 ≤ v i ∧ v i ≤ 99999) (ho : rA (M.1 15 0 1)) (hz : rA (M.1 16 0 1)) (hd : M.1 0 0 12 = 0 ∨ M.1 0 0 12 = 1) (hx : x1 = 0 ∨ x1 = 1)
    (h : ∀ (u3 u4 : Option zV) (cl : Bool), zT 26 (4, [some (zR 0 0), some (zI (if x1 = 0 ∧ tgt l v W (M.1 0 0 12) (M.1 15 0 1) (M.1 16 0 1) 1 = M.1 15 0 1 then 0 else 1)), some (zI 2), u3, u4], [], z_w M 17 0 1 (tgt l v W (M.1 0 0 12) (M.1 15 0 1) (M.1 16 0 1) 1), cl) Q) :
    zT 26 (4, [some (zR 0 0), some (zI x1), some (zI 1), u3, u4], [], M, cl) Q := by
  have hr := z_chr_r 1
  have ht := tdOf_r (l := l) (c := z_chr 1) (d := 0) (a := -99999) (b := 99999) (k := W) (by omega) hv
  have hm1 : cmdT (z_w M 17 0 1 (M.1 15 0 1)) l v W := hm
  refine g26_4a1 (c20 hm1 hr ⟨_, rfl, fun cl1 => ⟨by split <;> omega, fun e => ?_, fun e => ?_⟩⟩)
  · have hn : nOf l (z_chr 1) W = 0 := by
      by_cases q : nOf l (z_chr 1) W = 0
      · exact q
      · rw [if_neg q] at e; omega
    rw [tgt_0 hn] at h
    refine ⟨by omega, fun e1 => ?_, fun e1 => ⟨by show zr (M.1 15 0 1) ∧ _; omega, fun e2 => ?_, fun e2 => absurd rfl e2⟩⟩
    · have h1 := h (some (zI (z_chr 1))) (some (zI (M.1 15 0 1))) cl1
      rw [if_neg (by omega)] at h1; exact h1
    · have h1 := h (some (zI (z_chr 1))) (some (zI (M.1 15 0 1))) cl1
      rw [if_pos ⟨e1, rfl⟩] at h1; exact h1
  · have hn : ¬ nOf l (z_chr 1) W = 0 := by
      intro q; rw [if_pos q] at e; exact absurd rfl e
    have ev := cmdT_v hm hr hn
    refine c22 hr ⟨_, rfl, fun cl2 => ?_⟩
    have ev2 : (z_w M 17 0 1 (M.1 15 0 1)).1 7 0 (z_chr 1 - 65).toNat = tdOf l v (z_chr 1) 0 W := ev
    rw [ev2]
    have ed : (z_w M 17 0 1 (M.1 15 0 1)).1 0 0 12 = M.1 0 0 12 := rfl
    have ez : (z_w M 17 0 1 (M.1 15 0 1)).1 16 0 1 = M.1 16 0 1 := rfl
    rw [ed, ez, z_w_w, z_w_w]
    refine ⟨by omega, fun e1 => ?_, fun e1 => ?_⟩
    · rw [tgt_z hn e1] at h
      refine ⟨by omega, fun e2 => ?_, fun e2 => ⟨by omega, fun e3 => ?_, fun e3 => ?_⟩⟩
      · have h1 := h (some (zI (z_chr 1))) (some (zI (M.1 15 0 1))) false
        rw [if_neg (by omega)] at h1; exact h1
      · have h1 := h (some (zI (z_chr 1))) (some (zI (M.1 15 0 1))) false
        rw [if_pos ⟨e2, e3⟩] at h1; exact h1
      · have h1 := h (some (zI (z_chr 1))) (some (zI (M.1 15 0 1))) false
        rw [if_neg (fun q => e3 q.2)] at h1; exact h1
    · rw [tgt_n hn e1] at h
      refine ⟨by omega, fun e2 => ?_, fun e2 => ⟨by omega, fun e3 => ?_, fun e3 => ?_⟩⟩
      · have h1 := h (some (zI (z_chr 1))) (some (zI (M.1 15 0 1))) false
        rw [if_neg (by omega)] at h1; exact h1
      · have h1 := h (some (zI (z_chr 1))) (some (zI (M.1 15 0 1))) false
        rw [if_pos ⟨e2, e3⟩] at h1; exact h1
      · have h1 := h (some (zI (z_chr 1))) (some (zI (M.1 15 0 1))) false
        rw [if_neg (fun q => e3 q.2)] at h1; exact h1
theorem c26_a2 {M : zM} {l v : Nat → Int} {W : Nat} {x1 : Int} {u3 u4 : Option zV} {cl : Bool} {Q : zQ} (hm : cmdT M l v W) (hv : ∀ i, i < W → -99999 ≤ v i ∧ v i ≤ 99999) (ho : rA (M.1 15 0 2)) (hz : rA (M.1 16 0 2)) (hd : M.1 0 0 12 = 0 ∨ M.1 0 0 12 = 1) (hx : x1 = 0 ∨ x1 = 1)
    (h : ∀ (u3 u4 : Option zV) (cl : Bool), zT 26 (4, [some (zR 0 0), some (zI (if x1 = 0 ∧ tgt l v W (M.1 0 0 12) (M.1 15 0 2) (M.1 16 0 2) 2 = M.1 15 0 2 then 0 else 1)), some (zI 3), u3, u4], [], z_w M 17 0 2 (tgt l v W (M.1 0 0 12) (M.1 15 0 2) (M.1 16 0 2) 2), cl) Q) :
    zT 26 (4, [some (zR 0 0), some (zI x1), some (zI 2), u3, u4], [], M, cl) Q := by
  have hr := z_chr_r 2
  have ht := tdOf_r (l := l) (c := z_chr 2) (d := 0) (a := -99999) (b := 99999) (k := W) (by omega) hv
  have hm1 : cmdT (z_w M 17 0 2 (M.1 15 0 2)) l v W := hm
  refine g26_4a2 (c20 hm1 hr ⟨_, rfl, fun cl1 => ⟨by split <;> omega, fun e => ?_, fun e => ?_⟩⟩)
  · have hn : nOf l (z_chr 2) W = 0 := by
      by_cases q : nOf l (z_chr 2) W = 0
      · exact q
      · rw [if_neg q] at e; omega
    rw [tgt_0 hn] at h
    refine ⟨by omega, fun e1 => ?_, fun e1 => ⟨by show zr (M.1 15 0 2) ∧ _; omega, fun e2 => ?_, fun e2 => absurd rfl e2⟩⟩
    · have h1 := h (some (zI (z_chr 2))) (some (zI (M.1 15 0 2))) cl1
      rw [if_neg (by omega)] at h1; exact h1
    · have h1 := h (some (zI (z_chr 2))) (some (zI (M.1 15 0 2))) cl1
      rw [if_pos ⟨e1, rfl⟩] at h1; exact h1
  · have hn : ¬ nOf l (z_chr 2) W = 0 := by
      intro q; rw [if_pos q] at e; exact absurd rfl e
    have ev := cmdT_v hm hr hn
    refine c22 hr ⟨_, rfl, fun cl2 => ?_⟩
    have ev2 : (z_w M 17 0 2 (M.1 15 0 2)).1 7 0 (z_chr 2 - 65).toNat = tdOf l v (z_chr 2) 0 W := ev
    rw [ev2]
    have ed : (z_w M 17 0 2 (M.1 15 0 2)).1 0 0 12 = M.1 0 0 12 := rfl
    have ez : (z_w M 17 0 2 (M.1 15 0 2)).1 16 0 2 = M.1 16 0 2 := rfl
    rw [ed, ez, z_w_w, z_w_w]
    refine ⟨by omega, fun e1 => ?_, fun e1 => ?_⟩
    · rw [tgt_z hn e1] at h
      refine ⟨by omega, fun e2 => ?_, fun e2 => ⟨by omega, fun e3 => ?_, fun e3 => ?_⟩⟩
      · have h1 := h (some (zI (z_chr 2))) (some (zI (M.1 15 0 2))) false
        rw [if_neg (by omega)] at h1; exact h1
      · have h1 := h (some (zI (z_chr 2))) (some (zI (M.1 15 0 2))) false
        rw [if_pos ⟨e2, e3⟩] at h1; exact h1
      · have h1 := h (some (zI (z_chr 2))) (some (zI (M.1 15 0 2))) false
        rw [if_neg (fun q => e3 q.2)] at h1; exact h1
    · rw [tgt_n hn e1] at h
      refine ⟨by omega, fun e2 => ?_, fun e2 => ⟨by omega, fun e3 => ?_, fun e3 => ?_⟩⟩
      · have h1 := h (some (zI (z_chr 2))) (some (zI (M.1 15 0 2))) false
        rw [if_neg (by omega)] at h1; exact h1
      · have h1 := h (some (zI (z_chr 2))) (some (zI (M.1 15 0 2))) false
        rw [if_pos ⟨e2, e3⟩] at h1; exact h1
      · have h1 := h (some (zI (z_chr 2))) (some (zI (M.1 15 0 2))) false
        rw [if_neg (fun q => e3 q.2)] at h1; exact h1
-- the three targets of the class's state
def tg (M : zM) (l v : Nat → Int) (W : Nat) (a : Nat) : Int := tgt l v W (M.1 0 0 12) (M.1 15 0 a) (M.1 16 0 a) a
theorem c26 {M : zM} {l v : Nat → Int} {W : Nat} {R : Option zV → zM → Prop} (hm : cmdT M l v W) (hv : ∀ i, i < W → -99999 ≤ v i ∧ v i ≤ 99999) (ho : ∀ a, a < 3 → rA (M.1 15 0 a)) (hz : ∀ a, a < 3 → rA (M.1 16 0 a)) (hd : M.1 0 0 12 = 0 ∨ M.1 0 0 12 = 1)
    (h : R (some (zI (if tg M l v W 0 = M.1 15 0 0 ∧ tg M l v W 1 = M.1 15 0 1 ∧ tg M l v W 2 = M.1 15 0 2 then 0 else 1))) (z_w (z_w (z_w M 17 0 0 (tg M l v W 0)) 17 0 1 (tg M l v W 1)) 17 0 2 (tg M l v W 2))) : zF 26 [zR 0 0] M R := by
  refine g26_0 (c26_a0 hm hv (ho 0 (by omega)) (hz 0 (by omega)) hd (Or.inl rfl) fun _ _ _ => ?_)
  refine c26_a1 (M := z_w M 17 0 0 (tg M l v W 0)) hm hv (ho 1 (by omega)) (hz 1 (by omega)) hd (by split <;> omega) fun _ _ _ => ?_
  refine c26_a2 (M := z_w (z_w M 17 0 0 (tg M l v W 0)) 17 0 1 (tg M l v W 1)) hm hv (ho 2 (by omega)) (hz 2 (by omega)) hd (by split <;> omega) fun _ _ _ => ?_
  refine g26_4a3 ⟨by split <;> omega, rfl, ?_⟩
  by_cases h0 : tg M l v W 0 = M.1 15 0 0
  · by_cases h1 : tg M l v W 1 = M.1 15 0 1
    · by_cases h2 : tg M l v W 2 = M.1 15 0 2
      · rw [if_pos ⟨h0, h1, h2⟩] at h
        rw [if_pos ⟨if_pos ⟨if_pos ⟨rfl, h0⟩, h1⟩, h2⟩]; exact h
      · rw [if_neg (fun q => h2 q.2.2)] at h
        rw [if_neg (fun q => h2 q.2)]; exact h
    · rw [if_neg (fun q => h1 q.2.1)] at h
      rw [if_neg (fun q => by have := q.1; rw [if_neg (fun q => h1 q.2)] at this; omega)]; exact h
  · rw [if_neg (fun q => h0 q.1)] at h
    rw [if_neg (fun q => by have := q.1; rw [if_neg (fun q => by have := q.1; rw [if_neg (fun q => h0 q.2)] at this; omega)] at this; omega)]; exact h
