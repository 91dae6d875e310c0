-- Commands keep the state's bounds. (own work)
theorem sD_congr {D D' : Nat → Nat → Int} {q : Nat} : ∀ i, (∀ k, k < i → D' k q = D k q) → sD D' q i = sD D q i
  | 0, _ => rfl
  | i + 1, h => by
    simp only [sD]
    rw [sD_congr i (fun k hk => h k (by omega)), h i (by omega)]
theorem addB_ok {a K : Int} {s : aS} {d G' : Nat → Int} {l f : Int} (hi : iS a K s) (hK : K + 1 ≤ 10000) (hn : s.1 < 8) (ho : aOf s = 0) (hb : okB1 d l f) (hG : ∀ q, q < 3 → G' q = aG s q + d q) (hGr : ∀ q, q < 3 → -99999 ≤ G' q ∧ G' q ≤ 99999) : iS a (K + 1) (addB s d l f G') := by
  obtain ⟨n, ⟨D, L, F⟩, ⟨w, e, x, md, wt⟩, ⟨P, G⟩, ⟨hd, of, cu⟩, ⟨en, sl⟩, tl⟩ := s
  have ho' : of = 0 := ho
  have hG' : ∀ q, q < 3 → G' q = G q + d q := hG
  dsimp only at hn
  obtain ⟨i1, i2, i3, ⟨i41, i42⟩, i5, i6, i7, i8, i9, i10, i11⟩ := hi
  refine ⟨i1, by omega, fun i hi => ?_, ⟨i41, fun c => ?_⟩, fun q hq => ?_, i6, i7, i8, fun c => by omega, i10, by omega⟩
  · by_cases ei : i = n
    · subst ei
      dsimp only
      rw [if_pos rfl, if_pos rfl, if_pos rfl]; exact hb
    · dsimp only
      rw [if_neg ei, if_neg ei, if_neg ei]; exact i3 i (by omega)
  · have h42 := i42 c
    dsimp only
    rw [if_neg (by omega), if_neg (by omega)]
    exact ⟨by omega, h42.2⟩
  · have h5 := i5 q hq
    have eb : bsA ((fun i => if i = n then d else D i) 0) ((fun i => if i = n then l else L i) 0) P w md q = bsA (D 0) (L 0) P w md q := by
      unfold bsA
      by_cases c : w = 1
      · have := (i42 c).1
        dsimp only
        rw [if_neg (show ¬ 0 = n by omega), if_neg (show ¬ 0 = n by omega)]
      · rw [if_neg c, if_neg c]
    rw [eb]
    have es : ∀ i, i ≤ n → sD (fun i => if i = n then d else D i) q i = sD D q i := fun i hi => sD_congr i (fun k hk => by rw [if_neg (by omega)])
    have el : sD (fun i => if i = n then d else D i) q (n + 1) = sD D q n + d q := by
      show sD (fun i => if i = n then d else D i) q n + (if n = n then d else D n) q = _
      rw [es n (Nat.le_refl _), if_pos rfl]
    have h6 := h5.2
    have h7 := hG' q hq
    have h8 := hGr q hq
    refine ⟨fun i hi => ?_, by omega⟩
    by_cases ei : i = n + 1
    · rw [ei, el]; omega
    · rw [es i (by omega)]; exact h5.1 i (by omega)
theorem iS_up {a K : Int} {s : aS} (hi : iS a K s) (hK : K + 1 ≤ 10000) : iS a (K + 1) s := by
  obtain ⟨n, ⟨D, L, F⟩, ⟨w, e, x, md, wt⟩, ⟨P, G⟩, ⟨hd, of, cu⟩, ⟨en, sl⟩, tl⟩ := s
  obtain ⟨i1, i2, i3, i4, i5, i6, i7, i8, i9, i10, i11⟩ := hi
  exact ⟨i1, i2, i3, i4, i5, i6, i7, i8, i9, i10, by omega⟩
theorem cmR_ok {a K : Int} {l v : Nat → Int} {W : Nat} {s s' : aS} {q q' : aQ} {out : Int} (hi : iS a K s) (hq : iQ q) (hK : K + 1 ≤ 10000) (ho : aOf s = 0) (hw : wds l v W) (hk : cOk l v W) (h : cmR l v W s q out s' q') : iS a (K + 1) s' ∧ iQ q' ∧ q'.2.2.2.2 = q.2.2.2.2 ∧ aOf s' = 0 := by
  obtain ⟨wn, sp, df, Z, lo⟩ := q
  have hq' := hq
  obtain ⟨v1, v2, v3, v4, v5⟩ := hq'
  have gG := iS_G hi
  have sp1 : iQ (qSp l v W (wn, sp, df, Z, lo)) := ⟨v1, sp_r hk v2, v3, v4, v5⟩
  have aof : ∀ d l f G', aOf (addB s d l f G') = aOf s := fun d l f G' => by
    obtain ⟨n, ⟨D, L, F⟩, ⟨w, e, x, md, wt⟩, ⟨P, G⟩, ⟨hd, of, cu⟩, ⟨en, sl⟩, tl⟩ := s
    rfl
  rcases h with ⟨c, h | h | h | h⟩ | ⟨c, h | h⟩ | h | h
  · obtain ⟨_, _, h1, h2⟩ := h; subst h1; subst h2; exact ⟨iS_up hi hK, hq, rfl, ho⟩
  · obtain ⟨_, _, _, _, h1, h2⟩ := h; subst h1; subst h2; exact ⟨iS_up hi hK, hq, rfl, ho⟩
  · obtain ⟨_, _, _, h1, h2⟩ := h; subst h1; subst h2; exact ⟨iS_up hi hK, sp1, rfl, ho⟩
  · obtain ⟨hP, hS, h8, _, h1, h2⟩ := h
    subst h1; subst h2
    have hb5 : b500 (fun q => mTg l v W s (wn, sp, df, Z, lo) q - aG s q) := fun q hq => (hP q hq).2
    have hspr := sp_r hk v2
    refine ⟨addB_ok hi hK h8 ho ⟨by show 0 ≤ tdOf l v 70 sp W ∧ tdOf l v 70 sp W ≤ 1000; omega, hb5, fun c => ?_, fun _ => ⟨rfl, len3_pos hb5 (fun c => hS (by omega))⟩⟩ (fun q hq => by omega) (fun q hq => ?_), sp1, rfl, by rw [aof]; exact ho⟩
    · have c' : tdOf l v 70 sp W = 0 := c
      omega
    · have := (hP q hq).1
      by_cases e : q = 2
      · exact this.1 e
      · have := this.2 e; omega
  · obtain ⟨_, _, h1, h2⟩ := h; subst h1; subst h2; exact ⟨iS_up hi hK, hq, rfl, ho⟩
  · obtain ⟨h8, _, h1, h2⟩ := h
    subst h1; subst h2
    have hPr := hk.2.2.2.2.2.1 (hk.2.2.2.2.1 c)
    exact ⟨addB_ok hi hK h8 ho ⟨by omega, fun q hq => by dsimp only; omega, fun _ => ⟨fun _ _ => rfl, hPr⟩, fun q => absurd q (by decide)⟩ (fun q hq => by omega) gG, hq, rfl, by rw [aof]; exact ho⟩
  · obtain ⟨_, _, h1, h2⟩ := h
    subst h1; subst h2
    refine ⟨iS_up hi hK, ⟨v1, v2, v3, fun q hq => ?_, v5⟩, rfl, ho⟩
    have h3 := tdOf_r (l := l) (v := v) (c := z_chr q) (d := 0) (a := -99999) (b := 99999) (by omega) (k := W) (fun i hi => (hw.2 i hi).2)
    have h4 := gG q hq
    have h5 := v4 q hq
    dsimp only
    unfold ogn
    split
    · exact h5
    · omega
  · obtain ⟨_, _, h1, h2⟩ := h
    subst h1; subst h2
    refine ⟨iS_up hi hK, ⟨v1, v2, ?_, v4, v5⟩, rfl, ho⟩
    split
    · exact Or.inr rfl
    · exact Or.inl rfl
theorem rcR_ok {a K : Int} {T : Nat → Int} {s s' : aS} {q q' : aQ} {ans : Int} (hi : iS a K s) (hq : iQ q) (hK : K + 1 ≤ 10000) (ho : aOf s = 0) (hk : okT T (aT s)) (h : rcR T s q ans s' q') : iS a (K + 1) s' ∧ iQ q' ∧ (-3 ≤ ans ∧ ans ≤ 100000) ∧ q'.2.2.2.2 = q.2.2.2.2 ∧ aT s' = 0 := by
  have ct : ∀ s1 : aS, aT (clT s1) = 0 := fun s1 => by
    obtain ⟨n, ⟨D, L, F⟩, ⟨w, e, x, md, wt⟩, ⟨P, G⟩, ⟨hd, of, cu⟩, ⟨en, sl⟩, tl⟩ := s1
    rfl
  have nq : ∀ q1 : aQ, iQ q1 → q1.1 ≤ 99999 → iQ (nxQ q1) ∧ (nxQ q1).2.2.2.2 = q1.2.2.2.2 := fun q1 h1 h2 => by
    obtain ⟨wn, sp, df, Z, lo⟩ := q1
    dsimp only at h2
    obtain ⟨v1, v2⟩ := h1
    exact ⟨⟨by omega, v2⟩, rfl⟩
  rcases h with h | h
  · obtain ⟨_, h1, h2, h3⟩ := h
    subst h1; subst h2; subst h3
    exact ⟨iS_up (iS_clT hi) hK, hq, by omega, rfl, ct _⟩
  · obtain ⟨W, hF, hV, h⟩ := h
    have hwd := isFr_wds hk hF
    rcases h with h | h
    · obtain ⟨_, h1, h2, h3⟩ := h
      subst h1; subst h2; subst h3
      exact ⟨iS_up (iS_clT hi) hK, (nq q hq (by omega)).1, by omega, (nq q hq (by omega)).2, ct _⟩
    · obtain ⟨hO, out, s1, q1, hc, h⟩ := h
      have h1 := cmR_ok hi hq hK ho hwd.1 hO hc
      have h2 := cmR_out hc
      rcases h with h | h | h
      · obtain ⟨_, g1, g2, g3⟩ := h
        subst g1; subst g2; subst g3
        exact ⟨iS_clT h1.1, h1.2.1, by omega, h1.2.2.1, ct _⟩
      · obtain ⟨_, g1, g2, g3⟩ := h
        subst g1; subst g2; subst g3
        have h3 := nq q1 h1.2.1 (by omega)
        exact ⟨iS_clT h1.1, h3.1, by omega, by rw [h3.2]; exact h1.2.2.1, ct _⟩
      · obtain ⟨_, g1, g2, g3⟩ := h
        subst g1; subst g2; subst g3
        have h3 := nq q1 h1.2.1 (by omega)
        exact ⟨iS_clT h1.1, h3.1, by omega, by rw [h3.2]; exact h1.2.2.1, ct _⟩
-- what holds between two calls
def iR (M : zM) (K a : Int) (s : aS) (q : aQ) (T : Nat → Int) : Prop := iS a K s ∧ iQ q ∧ cS M a s ∧ mS M a s ∧ cQ M q ∧ mQ M q ∧ okT T (aT s) ∧ (∀ i : Nat, (i : Int) < aT s → M.1 2 0 i = T i) ∧ (∀ i : Nat, (i : Int) < aT s → M.1 19 0 i = T i) ∧ (q.2.2.2.2 = 1 → s.1 = 0)
def iI (M : zM) (K : Int) : Prop := ∃ (a : Int) (s : aS) (q : aQ) (T : Nat → Int), iR M K a s q T
def sSc (M M' : zM) : Prop := M'.2.2 = M.2.2 ∧ ∀ i, M'.1 32 0 i = M.1 32 0 i
theorem sSc.trans {M M' M'' : zM} (h : sSc M M') (h' : sSc M' M'') : sSc M M'' := ⟨by rw [h'.1, h.1], fun i => by rw [h'.2, h.2]⟩
theorem sSc_fr {P PL : Nat → Nat → Prop} {M M' : zM} (h : zfr P PL M M') (hP : ∀ s, ¬ P 32 s) : sSc M M' := ⟨h.2.2, fun i => h.1 32 0 i (hP i)⟩
theorem cS_wl {M : zM} {a v : Int} {s : aS} (h : cS M a s) : cS (z_wl M 31 0 0 v) a s := cS_eq (fun _ _ _ _ => rfl) h
theorem cQ_wl {M : zM} {v : Int} {q : aQ} (h : cQ M q) : cQ (z_wl M 31 0 0 v) q := cQ_eq (fun _ _ _ _ => rfl) h
theorem mQ_wl {M : zM} {v : Int} {q : aQ} (h : mQ M q) : mQ (z_wl M 31 0 0 v) q := mQ_eq (fun _ _ _ _ => rfl) h
theorem mS_wl {M : zM} {a v : Int} {s : aS} (h : mS M a s) : mS (z_wl M 31 0 0 v) a s := by
  obtain ⟨n, ⟨D, L, F⟩, ⟨w, e, x, md, wt⟩, ⟨P, G⟩, ⟨hd, of, cu⟩, ⟨en, sl⟩, tl⟩ := s
  exact h
theorem mS_T {M : zM} {a : Int} {s : aS} (h : mS M a s) : M.1 18 0 2 = aT s := by
  obtain ⟨n, ⟨D, L, F⟩, ⟨w, e, x, md, wt⟩, ⟨P, G⟩, ⟨hd, of, cu⟩, ⟨en, sl⟩, tl⟩ := s
  exact h.2.2.2.2.2.2.2.2.2
theorem cQ_fr {P PL : Nat → Nat → Prop} {M M' : zM} {q : aQ} (h : zfr P PL M M') (hP : hiK P) (hq : cQ M q) : cQ M' q := cQ_eq (fun k j s hs => h.1 k j s (fun hp => by have := hP k s hp; unfold sQ at hs; omega)) hq
theorem mQ_fr {P PL : Nat → Nat → Prop} {M M' : zM} {q : aQ} (h : zfr P PL M M') (hP : loK P) (hq : mQ M q) : mQ M' q := mQ_eq (fun k j s hs => h.1 k j s (fun hp => by have := hP k s hp; unfold sNq at hs; omega)) hq
-- behind both answers
theorem tlA {r7 r5 r6 o : Int} {Z Y Y' : Prop} (h75 : r7 = r5) (z5 : zr r5) (z6 : r5 = 0 → zr r6 ∧ o = r6) (hz : Z) : (zr r7 ∧ zr r5) ∧ ((r7 = r5 → (zr r5) ∧ ((¬ r5 = 0 → Z) ∧ (r5 = 0 → (zr r6) ∧ ((zrl o ∧ zrl r6) ∧ ((o = r6 → Z) ∧ (¬ (o = r6) → Y)))))) ∧ (¬ (r7 = r5) → Y')) :=
  ⟨by omega, fun _ => ⟨z5, fun _ => hz, fun c => ⟨(z6 c).1, by have := z6 c; omega, fun _ => hz, fun c2 => absurd (z6 c).2 c2⟩⟩, fun c => absurd h75 c⟩
theorem tlB {r1 r2 : Int} {Z Y : Prop} (h : r1 = r2) (hr : zr r1) (hz : Z) : (zr r1 ∧ zr r2) ∧ ((r1 = r2 → Z) ∧ (¬ (r1 = r2) → Y)) := ⟨by omega, fun _ => hz, fun c => absurd h c⟩
