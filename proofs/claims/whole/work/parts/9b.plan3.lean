-- The reference's plan, its outer loop. (own work)
theorem pm_t_b {M : zM} {c d : Nat → Nat} {first given count i j : Nat} (hp : plOk M c d first given count) (hi : i < count) (hj : first ≤ j ∧ j ≤ count) : pm_g c first given count j ≤ 1000000000 ∧ pm_t (pm_g c first given count) d i j ≤ 1152921504606846976 := by
  obtain ⟨hc, h8, ha, hd, hcl, hgv⟩ := hp
  have h1 : pm_g c first given count j ≤ 1000000000 := by
    unfold pm_g
    split
    · omega
    · split
      · exact hgv
      · have := (hcl j (by omega) (by omega)).2; omega
  refine ⟨h1, ?_⟩
  unfold pm_t
  split
  · have := pm_S_b (d := d) (i := i) (j - i) (fun q h1 h2 => (hd q (by omega)).2.2); omega
  · have := pm_S_b (d := d) (i := j) (i - j) (fun q h1 h2 => (hd q (by omega)).2.2); omega
theorem c90 {M : zM} {c d : Nat → Nat} {first given count i : Nat} {R : Option zV → zM → Prop} (hp : plOk M c d first given count) (hi : first < i ∧ i < count)
    (h : ∀ v : Nat, (∀ x, x ≤ v ↔ ∀ j, first ≤ j → j ≤ count → x ≤ pm_t (pm_g c first given count) d i j) → R (some (zJ v)) M) : zF 90 [zR 18 0, zI i, zI first, zJ given] M R := by
  have hp' := hp
  obtain ⟨hc, h8, ha, hd, hcl, hgv⟩ := hp'
  have loop : ∀ (f j : Nat) (best : Nat) (u8 u9 u10 u11 u12 : Option zV) (cl : Bool), count + 1 - j ≤ f → first ≤ j → j ≤ count + 1 → (∀ x, x ≤ best ↔ x ≤ 1152921504606846976 ∧ ∀ q, first ≤ q → q < j → x ≤ pm_t (pm_g c first given count) d i q) →
      zT 90 (35, [some (zR 18 0), some (zI i), some (zI first), some (zJ given), none, some (zJ best), none, some (zI j), u8, u9, u10, u11, u12], [], M, cl) (zq R) := by
    have done : ∀ (j : Nat) (best : Nat) (u8 u9 u10 u11 u12 : Option zV) (cl : Bool), j = count + 1 → (∀ x, x ≤ best ↔ x ≤ 1152921504606846976 ∧ ∀ q, first ≤ q → q < j → x ≤ pm_t (pm_g c first given count) d i q) →
      zT 90 (35, [some (zR 18 0), some (zI i), some (zI first), some (zJ given), none, some (zJ best), none, some (zI j), u8, u9, u10, u11, u12], [], M, cl) (zq R) := by
      intro j best u8 u9 u10 u11 u12 cl e hb
      refine g90_35 ?_
      rw [hc]
      refine ⟨by omega, fun _ => ⟨rfl, h best fun x => ?_⟩, fun c1 => by omega⟩
      rw [hb]
      constructor
      · rintro ⟨_, hx⟩ q h1 h2
        exact hx q h1 (by omega)
      · intro hx
        refine ⟨?_, fun q h1 h2 => hx q h1 (by omega)⟩
        have h1 := hx count (by omega) (Nat.le_refl _)
        have h2 := (pm_t_b hp hi.2 (j := count) ⟨by omega, Nat.le_refl _⟩).2
        omega
    intro f
    induction f with
    | zero => intro j best u8 u9 u10 u11 u12 cl hf h1 h2 hb; exact done j best _ _ _ _ _ cl (by omega) hb
    | succ f ih =>
      intro j best u8 u9 u10 u11 u12 cl hf h1 h2 hb
      by_cases e : j = count + 1
      · exact done j best _ _ _ _ _ cl e hb
      · have hgb := pm_t_b hp hi.2 (j := j) ⟨h1, by omega⟩
        have hbest : best ≤ 1152921504606846976 := ((hb best).1 (Nat.le_refl _)).1
        -- one joint more
        have step : ∀ (lo hi' : Nat), (lo = i ∧ hi' = j ∧ i < j) ∨ (lo = j ∧ hi' = i ∧ j ≤ i) → ∀ (gv : Int) (cl : Bool), gv = (pm_g c first given count j : Int) → zT 90 (107, [some (zR 18 0), some (zI i), some (zI first), some (zJ given), none, some (zJ best), none, some (zI j), some (zJ gv), none, some (zI lo), some (zI hi'), some (zI lo)], [], M, cl) (zq R) := by
          intro lo hi' hlh gv cl hgv
          have key := c90_in (i := i) (lo := lo) (hi := hi') (best := best) (x1 := (i : Int)) (x2 := (first : Int)) (x3 := (given : Int)) (Q := zq R) hp hgb.1 (by omega) hbest (fun u8 u9 u10 u11 u12 cl b' hb' => by
            have h3 := ih (j + 1) b' u8 u9 u10 u11 u12 cl (by omega) (by omega) (by omega) (fun x => by
              rw [hb', hb]
              have et : pm_t (pm_g c first given count) d i j = pm_g c first given count j + pm_S d lo (hi' - lo) := by
                unfold pm_t
                rcases hlh with ⟨e1, e2, e3⟩ | ⟨e1, e2, e3⟩
                · rw [if_pos e3, e1, e2]
                · rw [if_neg (by omega), e1, e2]
              rw [← et]
              constructor
              · rintro ⟨⟨hx1, hx2⟩, hx3⟩
                refine ⟨hx1, fun q q1 q2 => ?_⟩
                by_cases eq : q = j
                · rw [eq]; exact hx3
                · exact hx2 q q1 (by omega)
              · rintro ⟨hx1, hx2⟩
                exact ⟨⟨hx1, fun q q1 q2 => hx2 q q1 (by omega)⟩, hx2 j h1 (by omega)⟩)
            rw [show ((j + 1 : Nat) : Int) = (j : Int) + 1 by omega] at h3
            exact h3) hi' lo cl (by omega) (Nat.le_refl _) (by omega)
          rw [show pm_g c first given count j + pm_S d lo (lo - lo) = pm_g c first given count j by rw [Nat.sub_self]; simp [pm_S], ← hgv] at key
          exact key
        have both : ∀ (gv : Int) (cl : Bool), gv = (pm_g c first given count j : Int) → (zr (i : Int) ∧ zr (j : Int)) ∧ (((j : Int) ≤ i → (zr (i : Int) ∧ zr (j : Int)) ∧ (((j : Int) ≤ i → zT 90 (107, [some (zR 18 0), some (zI i), some (zI first), some (zJ given), none, some (zJ best), none, some (zI j), some (zJ gv), none, some (zI j), some (zI i), some (zI j)], [], M, cl) (zq R)) ∧ (¬ ((j : Int) ≤ i) → zT 90 (107, [some (zR 18 0), some (zI i), some (zI first), some (zJ given), none, some (zJ best), none, some (zI j), some (zJ gv), none, some (zI j), some (zI j), some (zI j)], [], M, cl) (zq R)))) ∧ (¬ ((j : Int) ≤ i) → (zr (i : Int) ∧ zr (j : Int)) ∧ (((j : Int) ≤ i → zT 90 (107, [some (zR 18 0), some (zI i), some (zI first), some (zJ given), none, some (zJ best), none, some (zI j), some (zJ gv), none, some (zI i), some (zI i), some (zI i)], [], M, cl) (zq R)) ∧ (¬ ((j : Int) ≤ i) → zT 90 (107, [some (zR 18 0), some (zI i), some (zI first), some (zJ given), none, some (zJ best), none, some (zI j), some (zJ gv), none, some (zI i), some (zI j), some (zI i)], [], M, cl) (zq R))))) := by
          intro gv cl hgv
          exact ⟨by omega, fun c1 => ⟨by omega, fun _ => step j i (Or.inr ⟨rfl, rfl, by omega⟩) gv cl hgv, fun c2 => absurd c1 c2⟩, fun c1 => ⟨by omega, fun c2 => absurd c2 c1, fun _ => step i j (Or.inl ⟨rfl, rfl, by omega⟩) gv cl hgv⟩⟩
        refine g90_35 ?_
        rw [hc]
        refine ⟨by omega, fun c1 => by omega, fun _ => ⟨by omega, fun c1 => ⟨by omega, fun c2 => ?_, fun c2 => both _ _ ?_⟩, fun c1 => both _ _ ?_⟩⟩
        · have hj := hcl j (by omega) (by omega)
          refine c88 (by omega) (hd (j - 1) (by omega)).1 (hd j (by omega)).1 ⟨_, rfl, fun cl1 => both _ _ ?_⟩
          unfold pm_g
          rw [if_neg (by omega), if_neg (by omega)]; exact hj.1.symm
        · unfold pm_g
          rw [if_neg (by omega), if_pos (by omega)]
        · unfold pm_g
          rw [if_pos (by omega)]; rfl
  refine g90_0 ?_
  rw [hc]
  refine ⟨by omega, fun c1 => by omega, fun _ => ⟨by omega, fun _ => ?_, fun c1 => by omega⟩⟩
  exact loop (count + 1 - first) first 1152921504606846976 _ _ _ _ _ true (Nat.le_refl _) (Nat.le_refl _) (by omega) (fun x => ⟨fun hx => ⟨hx, fun q q1 q2 => by omega⟩, fun hx => hx.1⟩)
-- past the row's end, and at its settled first
theorem c90_end {M : zM} {i first given : Int} {R : Option zV → zM → Prop} (hi : zr i) (hc : zr (M.1 18 0 15)) (he : M.1 18 0 15 ≤ i) (h : R (some (zJ 0)) M) : zF 90 [zR 18 0, zI i, zI first, zJ given] M R :=
  g90_0 ⟨by omega, fun _ => ⟨by omega, fun c1 => by omega, fun _ => ⟨rfl, h⟩⟩, fun c1 => absurd he c1⟩
theorem c90_first {M : zM} {i given : Int} {R : Option zV → zM → Prop} (hi : zr i) (hc : zr (M.1 18 0 15)) (he : i < M.1 18 0 15) (h : R (some (zJ given)) M) : zF 90 [zR 18 0, zI i, zI i, zJ given] M R :=
  g90_0 ⟨by omega, fun c1 => by omega, fun _ => ⟨by omega, fun c1 => absurd rfl c1, fun _ => ⟨by omega, fun _ => ⟨rfl, h⟩, fun c1 => absurd he c1⟩⟩⟩
