-- The class takes a command. (own work)
theorem c39 {M : zM} {a K : Int} {s : aS} {d : Nat → Int} {sp : Int} {R : Option zV → zM → Prop} (hs : cS M a s) (hi : iS a K s) (hn : s.1 < 8) (hd : ∀ q, q < 3 → bMv M q = d q) (hb : okB1 d (len3 d) sp)
    (h : ∀ M', zfr pAdd zno M M' → cS M' a (addB s d (len3 d) sp (aG s)) → R none M') : zF 39 [zR 8 0, zR 15 0, zR 17 0, zI sp] M R := by
  have hr : (0 ≤ M.1 8 0 2 ∧ M.1 8 0 2 ≤ 7) ∧ M.1 8 0 3 = (s.1 : Int) := by
    obtain ⟨n, ⟨D, L, F⟩, ⟨w, e, x, md, wt⟩, ⟨P, G⟩, ⟨hd, of, cu⟩, ⟨en, sl⟩, tl⟩ := s
    exact ⟨hs.1.1, hs.1.2.1⟩
  refine g39_0_15_17 ?_
  rw [hr.2]
  refine c31 hr.1 (by omega) ⟨_, rfl, fun _ => ?_⟩
  refine c33 (j := bN M s.1) (fun q hq => by rw [hd q hq]; exact hb.2.1 q hq) (fun M1 f1 ho h11 h1 h2 _ _ => ⟨rfl, fun _ => ?_⟩)
  have f1' : zfr pAdd zno M M1 := f1.mono (fun k q hp => by rcases hp with hp | hp; exact Or.inl hp; exact Or.inr (Or.inl hp)) (fun _ _ hp => hp)
  have e3 : M1.1 8 0 3 = (s.1 : Int) := by rw [f1.1 8 0 3 (by simp)]; exact hr.2
  rw [e3]
  refine c_add (M2 := z_w M1 8 0 3 ((s.1 : Int) + 1)) hs hi hn hb (f1'.w 8 0 3 _ (by simp [pAdd])) (fun b hb q => ho b hb q) (fun q hq => by rw [← hd q hq]; exact h11 q hq) (by rw [← len3_congr hd]; exact h1) h2 (by rw [z_w_get_eq]; omega) (fun M' f' s' => ⟨rfl, fun _ => ⟨rfl, h M' f' s'⟩⟩)
theorem c43 {M : zM} {a K : Int} {s : aS} {t : Int} {R : Option zV → zM → Prop} (hs : cS M a s) (hi : iS a K s) (hn : s.1 < 8) (ht : 1 ≤ t ∧ t ≤ 200)
    (h : ∀ M', zfr pAdd zno M M' → cS M' a (addB s (fun _ => 0) t 0 (aG s)) → R none M') : zF 43 [zR 8 0, zI t] M R := by
  have hr : (0 ≤ M.1 8 0 2 ∧ M.1 8 0 2 ≤ 7) ∧ M.1 8 0 3 = (s.1 : Int) := by
    obtain ⟨n, ⟨D, L, F⟩, ⟨w, e, x, md, wt⟩, ⟨P, G⟩, ⟨hd, of, cu⟩, ⟨en, sl⟩, tl⟩ := s
    exact ⟨hs.1.1, hs.1.2.1⟩
  refine g43_0 ?_
  rw [hr.2]
  refine c31 hr.1 (by omega) ⟨_, rfl, fun _ => ?_⟩
  refine c42 (j := bN M s.1) ⟨rfl, fun _ => ?_⟩
  have e3 : (z_w (z_w (z_w (z_w (z_w M 11 (bN M s.1) 0 0) 11 (bN M s.1) 1 0) 11 (bN M s.1) 2 0) 10 (bN M s.1) 1 t) 10 (bN M s.1) 2 0).1 8 0 3 = (s.1 : Int) := hr.2
  rw [e3]
  have f1 : zfr pAdd zno M (z_w (z_w (z_w (z_w (z_w M 11 (bN M s.1) 0 0) 11 (bN M s.1) 1 0) 11 (bN M s.1) 2 0) 10 (bN M s.1) 1 t) 10 (bN M s.1) 2 0) :=
    (((((zfr.refl _ _ _).w 11 _ 0 _ (by simp [pAdd])).w 11 _ 1 _ (by simp [pAdd])).w 11 _ 2 _ (by simp [pAdd])).w 10 _ 1 _ (by simp [pAdd])).w 10 _ 2 _ (by simp [pAdd])
  refine c_add (d := fun _ => 0) (l := t) (f := 0) hs hi hn ⟨by omega, fun q hq => by dsimp only; omega, fun _ => ⟨fun _ _ => rfl, ht⟩, fun q => absurd q (by decide)⟩ (f1.w 8 0 3 _ (by simp [pAdd])) (fun b hb q => ?_) (fun q hq => ?_) ?_ ?_ ?_ (fun M' f' s' => ⟨rfl, fun _ => ⟨rfl, h M' f' s'⟩⟩)
  · simp [z_w_get, hb]
  · rcases (show q = 0 ∨ q = 1 ∨ q = 2 by omega) with e | e | e <;> subst e <;> simp [z_w_get]
  · simp [z_w_get]
  · simp [z_w_get]
  · simp [z_w_get]
theorem cS_G {M : zM} {a : Int} {s : aS} {d : Nat → Int} {l f : Int} {G' : Nat → Int} (h : cS M a (addB s d l f (aG s))) (hG : ∀ q, q < 3 → M.1 17 0 q = G' q) : cS (z_cp M 17 0 15 0) a (addB s d l f G') := by
  obtain ⟨n, ⟨D, L, F⟩, ⟨w, e, x, md, wt⟩, ⟨P, G⟩, ⟨hd, of, cu⟩, ⟨en, sl⟩, tl⟩ := s
  obtain ⟨r, ha, wk, h1, h2⟩ := h
  refine ⟨cRow_eq rfl rfl (fun b s => rfl) (fun b => rfl) (fun b => rfl) r, ha, ⟨wk.1, fun c => cEnt_eq rfl (fun i _ _ => rfl) (wk.2.1 c), fun c => ⟨(wk.2.2 c).1, (wk.2.2 c).2.1, cEnt_eq rfl (fun i _ _ => rfl) (wk.2.2 c).2.2.1, (wk.2.2 c).2.2.2⟩⟩, fun q hq => ⟨(h1 q hq).1, ?_⟩, h2⟩
  rw [z_cp_get, if_pos ⟨rfl, rfl, hq⟩]; exact hG q hq
theorem cS_15 {M : zM} {a : Int} {s : aS} (h : cS M a s) : ∀ q, q < 3 → M.1 15 0 q = aG s q := by
  obtain ⟨n, ⟨D, L, F⟩, ⟨w, e, x, md, wt⟩, ⟨P, G⟩, ⟨hd, of, cu⟩, ⟨en, sl⟩, tl⟩ := s
  exact fun q hq => (h.2.2.2.1 q hq).2
theorem cS_n {M : zM} {a : Int} {s : aS} (h : cS M a s) : M.1 8 0 3 = (s.1 : Int) := by
  obtain ⟨n, ⟨D, L, F⟩, ⟨w, e, x, md, wt⟩, ⟨P, G⟩, ⟨hd, of, cu⟩, ⟨en, sl⟩, tl⟩ := s
  exact h.1.2.1
theorem iS_n {a K : Int} {s : aS} (h : iS a K s) : s.1 ≤ 8 := by
  obtain ⟨n, ⟨D, L, F⟩, ⟨w, e, x, md, wt⟩, ⟨P, G⟩, ⟨hd, of, cu⟩, ⟨en, sl⟩, tl⟩ := s
  exact h.2.1
theorem iS_G {a K : Int} {s : aS} (h : iS a K s) : ∀ q, q < 3 → -99999 ≤ aG s q ∧ aG s q ≤ 99999 := by
  obtain ⟨n, ⟨D, L, F⟩, ⟨w, e, x, md, wt⟩, ⟨P, G⟩, ⟨hd, of, cu⟩, ⟨en, sl⟩, tl⟩ := s
  intro q hq
  have h5 := h.2.2.2.2.1 q hq
  have h6 := h5.1 n (Nat.le_refl _)
  rw [h5.2] at h6
  exact h6
