-- Where the class is, kept. (own work)
def kU (f : Nat → Int) (c : Prop) [Decidable c] (i : Nat) (v : Int) : Nat → Int := fun k => if c ∧ k = i then v else f k
def kSl (en : Int) (P sl : Nat → Int) (w : Int) : Nat → Int := kU (kU (kU (kU (kU sl (0 < w) ((en % 2 * 4).toNat + 3) 0) (1 < w) ((en % 2 * 4).toNat + 0) (P 0)) (2 < w) ((en % 2 * 4).toNat + 1) (P 1)) (3 < w) ((en % 2 * 4).toNat + 2) (P 2)) (4 < w) ((en % 2 * 4).toNat + 3) en
theorem kU_t {M : zM} {f : Nat → Int} {c : Prop} [Decidable c] {z i : Nat} {v : Int} (hc : c) (h : ∀ k, k < 8 → M.1 z 0 k = f k) : ∀ k, k < 8 → (z_w M z 0 i v).1 z 0 k = kU f c i v k := by
  intro k hk
  rw [z_w_get, kU]
  by_cases e : k = i
  · rw [if_pos ⟨rfl, rfl, e⟩, if_pos ⟨hc, e⟩]
  · rw [if_neg (fun q => e q.2.2), if_neg (fun q => e q.2)]; exact h k hk
theorem kU_f {M : zM} {f : Nat → Int} {c : Prop} [Decidable c] {z i : Nat} {v : Int} (hc : ¬ c) (h : ∀ k, k < 8 → M.1 z 0 k = f k) : ∀ k, k < 8 → M.1 z 0 k = kU f c i v k := by
  intro k hk
  rw [kU, if_neg (fun q => hc q.1)]; exact h k hk
abbrev p79 : Nat → Nat → Prop := fun k s => k = 13 ∨ (k = 12 ∧ s = 1)
theorem c79_a0 {M : zM} {f : Nat → Int} {b : Nat} {x2 : Int} {cl : Bool} {Q : zQ} (hM : ∀ k, k < 8 → M.1 13 0 k = f k) (hb : b ≤ 4) (hx : 0 ≤ x2 ∧ x2 ≤ 5)
    (h : ∀ (M' : zM) (cl : Bool), zfr p79 zno M M' → M'.1 12 0 1 = M.1 12 0 1 → (∀ k, k < 8 → M'.1 13 0 k = kU f (1 < x2) (b + 0) (M.1 14 0 0) k) → zT 79 (37, [some (zR 12 0), some (zR 14 0), some (zI x2), some (zI b), some (zI 1)], [], M', cl) Q) : zT 79 (37, [some (zR 12 0), some (zR 14 0), some (zI x2), some (zI b), some (zI 0)], [], M, cl) Q := by
  refine g79_37a0_14 ⟨by omega, fun c => h _ _ (zfr.refl _ _ _) rfl (kU_f (by omega) hM), fun c => ⟨by omega, ?_⟩⟩
  rw [show ((b : Int) + 0).toNat = b + 0 by omega]
  exact h _ _ ((zfr.refl _ _ _).w 13 0 _ _ (Or.inl rfl)) rfl (kU_t (by omega) hM)
theorem c79_a1 {M : zM} {f : Nat → Int} {b : Nat} {x2 : Int} {cl : Bool} {Q : zQ} (hM : ∀ k, k < 8 → M.1 13 0 k = f k) (hb : b ≤ 4) (hx : 0 ≤ x2 ∧ x2 ≤ 5)
    (h : ∀ (M' : zM) (cl : Bool), zfr p79 zno M M' → M'.1 12 0 1 = M.1 12 0 1 → (∀ k, k < 8 → M'.1 13 0 k = kU f (2 < x2) (b + 1) (M.1 14 0 1) k) → zT 79 (37, [some (zR 12 0), some (zR 14 0), some (zI x2), some (zI b), some (zI 2)], [], M', cl) Q) : zT 79 (37, [some (zR 12 0), some (zR 14 0), some (zI x2), some (zI b), some (zI 1)], [], M, cl) Q := by
  refine g79_37a1_14 ⟨by omega, fun c => h _ _ (zfr.refl _ _ _) rfl (kU_f (by omega) hM), fun c => ⟨by omega, ?_⟩⟩
  rw [show ((b : Int) + 1).toNat = b + 1 by omega]
  exact h _ _ ((zfr.refl _ _ _).w 13 0 _ _ (Or.inl rfl)) rfl (kU_t (by omega) hM)
theorem c79_a2 {M : zM} {f : Nat → Int} {b : Nat} {x2 : Int} {cl : Bool} {Q : zQ} (hM : ∀ k, k < 8 → M.1 13 0 k = f k) (hb : b ≤ 4) (hx : 0 ≤ x2 ∧ x2 ≤ 5)
    (h : ∀ (M' : zM) (cl : Bool), zfr p79 zno M M' → M'.1 12 0 1 = M.1 12 0 1 → (∀ k, k < 8 → M'.1 13 0 k = kU f (3 < x2) (b + 2) (M.1 14 0 2) k) → zT 79 (37, [some (zR 12 0), some (zR 14 0), some (zI x2), some (zI b), some (zI 3)], [], M', cl) Q) : zT 79 (37, [some (zR 12 0), some (zR 14 0), some (zI x2), some (zI b), some (zI 2)], [], M, cl) Q := by
  refine g79_37a2_14 ⟨by omega, fun c => h _ _ (zfr.refl _ _ _) rfl (kU_f (by omega) hM), fun c => ⟨by omega, ?_⟩⟩
  rw [show ((b : Int) + 2).toNat = b + 2 by omega]
  exact h _ _ ((zfr.refl _ _ _).w 13 0 _ _ (Or.inl rfl)) rfl (kU_t (by omega) hM)
theorem c79 {M : zM} {en w : Int} {P sl : Nat → Int} {R : Option zV → zM → Prop} (he : M.1 12 0 1 = en) (her : 0 ≤ en ∧ en ≤ 100000) (hs : ∀ k, k < 8 → M.1 13 0 k = sl k) (hP : ∀ q, q < 3 → M.1 14 0 q = P q) (hw : 0 ≤ w ∧ w ≤ 5)
    (h : ∀ M', zfr p79 zno M M' → M'.1 12 0 1 = en + 1 → (∀ k, k < 8 → M'.1 13 0 k = kSl (en + 1) P sl w k) → R none M') : zF 79 [zR 12 0, zR 14 0, zI w] M R := by
  obtain ⟨b, hb⟩ : ∃ b : Nat, (b : Int) = (en + 1) % 2 * 4 := ⟨((en + 1) % 2 * 4).toNat, by omega⟩
  have hbn : ((en + 1) % 2 * 4).toNat = b := by omega
  have hb4 : b ≤ 4 := by omega
  have go : ∀ (M1 : zM) (cl : Bool), zfr p79 zno M M1 → M1.1 12 0 1 = en + 1 → (∀ k, k < 8 → M1.1 13 0 k = kU sl (0 < w) (b + 3) 0 k) → zT 79 (37, [some (zR 12 0), some (zR 14 0), some (zI w), some (zI b), some (zI 0)], [], M1, cl) (zq R) := by
    intro M1 cl f1 g1 s1
    have k14 : ∀ M', zfr p79 zno M M' → ∀ q, q < 3 → M'.1 14 0 q = P q := fun M' hf q hq => by rw [hf.1 14 0 q (by simp [p79])]; exact hP q hq
    refine c79_a0 s1 hb4 hw (fun M2 cl f2 g2 s2 => ?_)
    rw [k14 M1 f1 0 (by omega)] at s2
    refine c79_a1 s2 hb4 hw (fun M3 cl f3 g3 s3 => ?_)
    rw [k14 M2 (f1.trans f2) 1 (by omega)] at s3
    refine c79_a2 s3 hb4 hw (fun M4 cl f4 g4 s4 => ?_)
    rw [k14 M3 ((f1.trans f2).trans f3) 2 (by omega)] at s4
    have f := ((f1.trans f2).trans f3).trans f4
    have g : M4.1 12 0 1 = en + 1 := by rw [g4, g3, g2, g1]
    refine g79_37a3_14 ⟨by omega, fun c => ⟨rfl, h M4 f g ?_⟩, fun c => ⟨by omega, rfl, ?_⟩⟩
    · unfold kSl; rw [hbn]; exact kU_f (by omega) s4
    · rw [show ((b : Int) + 3).toNat = b + 3 by omega, g]
      refine h _ (f.w 13 0 _ _ (Or.inl rfl)) (by rw [z_w_get_ne (by omega)]; exact g) ?_
      unfold kSl; rw [hbn]; exact kU_t (by omega) s4
  refine g79_0_14 ?_
  rw [he]
  refine c30 (by omega) (by omega) ⟨_, rfl, fun _ => ?_⟩
  rw [← hb]
  have f0 : zfr p79 zno M (z_w M 12 0 1 (en + 1)) := (zfr.refl _ _ _).w 12 0 1 _ (Or.inr ⟨rfl, rfl⟩)
  refine ⟨by omega, fun c => go _ _ f0 rfl (kU_f (by omega) hs), fun c => ⟨by omega, ?_⟩⟩
  rw [show ((b : Int) + 3).toNat = b + 3 by omega]
  exact go _ _ (f0.w 13 0 _ _ (Or.inl rfl)) rfl (kU_t (by omega) hs)
theorem kSl_ok {en w : Int} {P sl : Nat → Int} (hs : iSl en sl) (he : 0 ≤ en) (hP : ∀ q, q < 3 → -99999 ≤ P q ∧ P q ≤ 99999) : iSl (en + 1) (kSl (en + 1) P sl w) := by
  obtain ⟨h1, h2, h3⟩ := hs
  have p0 := hP 0 (by omega); have p1 := hP 1 (by omega); have p2 := hP 2 (by omega)
  rcases (show (en + 1) % 2 = 0 ∨ (en + 1) % 2 = 1 by omega) with e | e
  · have hb : ((en + 1) % 2 * 4).toNat = 0 := by omega
    refine ⟨fun s hs q hq => ?_, ?_, ?_⟩
    · have hh := h1 s hs q hq
      unfold kSl kU; rw [hb]
      rcases (show s = 0 ∨ s = 1 by omega) with es | es <;> subst es <;> rcases (show q = 0 ∨ q = 1 ∨ q = 2 by omega) with eq | eq | eq <;> subst eq <;> simp at hh ⊢ <;> (try split) <;> omega
    · unfold kSl kU; rw [hb]; simp; split <;> (try split) <;> omega
    · unfold kSl kU; rw [hb]; simp; omega
  · have hb : ((en + 1) % 2 * 4).toNat = 4 := by omega
    refine ⟨fun s hs q hq => ?_, ?_, ?_⟩
    · have hh := h1 s hs q hq
      unfold kSl kU; rw [hb]
      rcases (show s = 0 ∨ s = 1 by omega) with es | es <;> subst es <;> rcases (show q = 0 ∨ q = 1 ∨ q = 2 by omega) with eq | eq | eq <;> subst eq <;> simp at hh ⊢ <;> (try split) <;> omega
    · unfold kSl kU; rw [hb]; simp; omega
    · unfold kSl kU; rw [hb]; simp; split <;> (try split) <;> omega
