-- The reference's plan is the least over all joints. (own work)
abbrev plOk (M : zM) (c d : Nat → Nat) (first given count : Nat) : Prop := M.1 18 0 15 = (count : Int) ∧ count ≤ 8 ∧ (1 ≤ M.1 18 0 0 ∧ M.1 18 0 0 ≤ 1000) ∧ (∀ k, k < count → okM M k ∧ (d k : Int) = 2 * M.1 18 0 0 * mLn M k ∧ d k ≤ 1000000) ∧ (∀ j, first < j → j < count → (c j : Int) = mCl M j ∧ c j ≤ 1000000) ∧ given ≤ 1000000000
theorem pm_S_b {d : Nat → Nat} {i : Nat} : ∀ n : Nat, (∀ k, i ≤ k → k < i + n → d k ≤ 1000000) → pm_S d i n ≤ n * 1000000
  | 0, _ => by simp [pm_S]
  | n + 1, h => by
    have := pm_S_b n (fun k h1 h2 => h k h1 (by omega))
    have := h (i + n) (by omega) (by omega)
    simp only [pm_S]; omega
theorem c90_in {M : zM} {c d : Nat → Nat} {first given count i j lo hi : Nat} {best : Nat} {x1 x2 x3 : Int} {Q : zQ} (hp : plOk M c d first given count) (hg : pm_g c first given count j ≤ 1000000000) (hh : lo ≤ hi ∧ hi ≤ count) (hb : best ≤ 1152921504606846976)
    (h : ∀ (u8 u9 u10 u11 u12 : Option zV) (cl : Bool) (b' : Nat), (∀ x, x ≤ b' ↔ x ≤ best ∧ x ≤ pm_g c first given count j + pm_S d lo (hi - lo)) → zT 90 (35, [some (zR 18 0), some (zI x1), some (zI x2), some (zJ x3), none, some (zJ b'), none, some (zI ((j : Int) + 1)), u8, u9, u10, u11, u12], [], M, cl) Q) :
    ∀ (f k : Nat) (cl : Bool), hi - k ≤ f → lo ≤ k → k ≤ hi → zT 90 (107, [some (zR 18 0), some (zI x1), some (zI x2), some (zJ x3), none, some (zJ best), none, some (zI j), some (zJ ((pm_g c first given count j + pm_S d lo (k - lo) : Nat) : Int)), none, some (zI lo), some (zI hi), some (zI k)], [], M, cl) Q := by
  obtain ⟨hc, h8, ha, hd, hcl, hgv⟩ := hp
  have done : ∀ (k : Nat) (cl : Bool), k = hi → zT 90 (107, [some (zR 18 0), some (zI x1), some (zI x2), some (zJ x3), none, some (zJ best), none, some (zI j), some (zJ ((pm_g c first given count j + pm_S d lo (k - lo) : Nat) : Int)), none, some (zI lo), some (zI hi), some (zI k)], [], M, cl) Q := by
    intro k cl e
    subst e
    have hs := pm_S_b (d := d) (i := lo) (k - lo) (fun q h1 h2 => (hd q (by omega)).2.2)
    generalize hT : pm_g c first given count j + pm_S d lo (k - lo) = t at *
    refine g90_107 ⟨by omega, fun _ => ⟨by omega, fun c1 => h _ _ _ _ _ _ best (fun x => by omega), fun c1 => h _ _ _ _ _ _ t (fun x => by omega)⟩, fun c1 => by omega⟩
  intro f
  induction f with
  | zero => intro k cl hf h1 h2; exact done k cl (by omega)
  | succ f ih =>
    intro k cl hf h1 h2
    by_cases e : k = hi
    · exact done k cl e
    · have hk := hd k (by omega)
      have h3 := ih (k + 1) true (by omega) (by omega) (by omega)
      have es : pm_S d lo (k + 1 - lo) = pm_S d lo (k - lo) + d k := by
        rw [show k + 1 - lo = (k - lo) + 1 by omega]
        simp only [pm_S]
        rw [show lo + (k - lo) = k by omega]
      refine g90_107 ⟨by omega, fun c1 => by omega, fun _ => ⟨by omega, c89 (by omega) hk.1 ⟨_, rfl, fun cl2 => ⟨?_, ?_⟩⟩⟩⟩
      · have := len3_r hk.1.2
        unfold mLn; split <;> omega
      · have h4 := ih (k + 1) cl2 (by omega) (by omega) (by omega)
        rw [es, show ((pm_g c first given count j + (pm_S d lo (k - lo) + d k) : Nat) : Int) = ((pm_g c first given count j + pm_S d lo (k - lo) : Nat) : Int) + (d k : Int) by omega, hk.2.1, show ((k + 1 : Nat) : Int) = (k : Int) + 1 by omega] at h4
        exact h4
