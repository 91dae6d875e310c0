-- Joints of two moves. (own work)
def dot (a b : Nat → Int) : Int := a 0 * b 0 + a 1 * b 1 + a 2 * b 2
theorem dot_cs (a b : Nat → Int) : dot a b * dot a b + ((a 0 * b 1 - a 1 * b 0) * (a 0 * b 1 - a 1 * b 0) + (a 0 * b 2 - a 2 * b 0) * (a 0 * b 2 - a 2 * b 0) + (a 1 * b 2 - a 2 * b 1) * (a 1 * b 2 - a 2 * b 1)) = dot a a * dot b b := by
  unfold dot
  generalize a 0 = x
  generalize a 1 = y
  generalize a 2 = z
  generalize b 0 = u
  generalize b 1 = v
  generalize b 2 = w
  grind
theorem sq_nn (x : Int) : 0 ≤ x * x := by
  rcases Int.le_total 0 x with h | h
  · exact Int.mul_nonneg h h
  · exact Int.mul_nonneg_of_nonpos_of_nonpos h h
theorem dot_le (a b : Nat → Int) : dot a b * dot a b ≤ dot a a * dot b b := by
  have := dot_cs a b
  have h1 := sq_nn (a 0 * b 1 - a 1 * b 0)
  have h2 := sq_nn (a 0 * b 2 - a 2 * b 0)
  have h3 := sq_nn (a 1 * b 2 - a 2 * b 1)
  omega
theorem dot_nn (a : Nat → Int) : 0 ≤ dot a a := by
  have h1 := sq_nn (a 0)
  have h2 := sq_nn (a 1)
  have h3 := sq_nn (a 2)
  unfold dot; omega
theorem mul_b {x y : Int} (hx : -500 ≤ x ∧ x ≤ 500) (hy : -500 ≤ y ∧ y ≤ 500) : -250000 ≤ x * y ∧ x * y ≤ 250000 := by
  have h1 : 0 ≤ (500 - x) * (500 + y) := Int.mul_nonneg (by omega) (by omega)
  have h2 : 0 ≤ (500 + x) * (500 - y) := Int.mul_nonneg (by omega) (by omega)
  have h3 : 0 ≤ (500 - x) * (500 - y) := Int.mul_nonneg (by omega) (by omega)
  have h4 : 0 ≤ (500 + x) * (500 + y) := Int.mul_nonneg (by omega) (by omega)
  have e1 : (500 - x) * (500 + y) = 250000 + 500 * y - 500 * x - x * y := by grind
  have e2 : (500 + x) * (500 - y) = 250000 - 500 * y + 500 * x - x * y := by grind
  have e3 : (500 - x) * (500 - y) = 250000 - 500 * y - 500 * x + x * y := by grind
  have e4 : (500 + x) * (500 + y) = 250000 + 500 * y + 500 * x + x * y := by grind
  omega
abbrev b500 (a : Nat → Int) : Prop := ∀ i, i < 3 → -500 ≤ a i ∧ a i ≤ 500
theorem dot_b {a b : Nat → Int} (ha : b500 a) (hb : b500 b) : -750000 ≤ dot a b ∧ dot a b ≤ 750000 := by
  have h0 := mul_b (ha 0 (by omega)) (hb 0 (by omega))
  have h1 := mul_b (ha 1 (by omega)) (hb 1 (by omega))
  have h2 := mul_b (ha 2 (by omega)) (hb 2 (by omega))
  unfold dot; omega
def jn (a b : Nat → Int) (ta tb : Int) : Int := if dot a b ≤ 0 then 0 else imin ta tb * dot a b * dot a b / (dot a a * dot b b)
-- what is divided, by what, and what comes of it
theorem jn_g {a b : Nat → Int} {t : Int} (ha : b500 a) (hb : b500 b) (ht : 0 ≤ t ∧ t ≤ 1000000) (hd : 0 < dot a b) : (0 < dot a a * dot b b ∧ dot a a * dot b b ≤ 562500000000) ∧ (0 ≤ t * dot a b * dot a b ∧ t * dot a b * dot a b ≤ 562500000000000000) ∧ (0 ≤ t * dot a b * dot a b / (dot a a * dot b b) ∧ t * dot a b * dot a b / (dot a a * dot b b) ≤ t) := by
  have hcs := dot_le a b
  have hab := dot_b ha hb
  have haa := dot_b ha ha
  have hbb := dot_b hb hb
  have na := dot_nn a
  have nb := dot_nn b
  have hsq : 0 < dot a b * dot a b := Int.mul_pos hd hd
  have hup : dot a a * dot b b ≤ 750000 * 750000 := Int.mul_le_mul haa.2 hbb.2 nb (by omega)
  have hsu : dot a b * dot a b ≤ 750000 * 750000 := Int.mul_le_mul hab.2 hab.2 (by omega) (by omega)
  rw [Int.mul_assoc]
  generalize dot a b * dot a b = q at *
  generalize dot a a * dot b b = p at *
  have h0 : 0 ≤ t * q := Int.mul_nonneg ht.1 (by omega)
  have h1 : t * q ≤ 1000000 * (750000 * 750000) := Int.mul_le_mul ht.2 hsu (by omega) (by omega)
  have h2 : t * q ≤ t * p := Int.mul_le_mul_of_nonneg_left hcs ht.1
  refine ⟨by omega, by omega, Int.ediv_nonneg h0 (by omega), ?_⟩
  exact Int.ediv_le_of_le_mul (by omega) h2
theorem jn_r {a b : Nat → Int} {ta tb : Int} (ha : b500 a) (hb : b500 b) (hta : 0 ≤ ta ∧ ta ≤ 1000000) (htb : 0 ≤ tb ∧ tb ≤ 1000000) : 0 ≤ jn a b ta tb ∧ jn a b ta tb ≤ imin ta tb := by
  have hm := imin_r ta tb
  unfold jn
  split
  · omega
  · have := (jn_g (t := imin ta tb) ha hb (by omega) (by omega)).2.2; omega
theorem c36 {M : zM} {j k : Nat} {R : Option zV → zM → Prop} (hj : b500 (M.1 11 j)) (hk : b500 (M.1 11 k)) (hta : 0 ≤ M.1 10 j 2 ∧ M.1 10 j 2 ≤ 1000000) (htb : 0 ≤ M.1 10 k 2 ∧ M.1 10 k 2 ≤ 1000000)
    (h : R (some (zI (jn (M.1 11 j) (M.1 11 k) (M.1 10 j 2) (M.1 10 k 2)))) M) : zF 36 [zR 10 j, zR 10 k] M R := by
  have rj : ∀ a, a < 3 → zr (M.1 11 j a) := fun a ha => by have := hj a ha; omega
  have rk : ∀ a, a < 3 → zr (M.1 11 k a) := fun a ha => by have := hk a ha; omega
  have hm := imin_r (M.1 10 j 2) (M.1 10 k 2)
  have hab := dot_b hj hk
  refine g36_0 (c34 rj rk ⟨_, rfl, fun _ => c34 rj rj ⟨_, rfl, fun _ => c34 rk rk ⟨_, rfl, fun _ => ?_⟩⟩⟩)
  show (zrl (dot (M.1 11 j) (M.1 11 k)) ∧ zrl 0) ∧ ((dot (M.1 11 j) (M.1 11 k) ≤ 0 → _) ∧ (¬ (dot (M.1 11 j) (M.1 11 k) ≤ 0) → (zrl (dot (M.1 11 j) (M.1 11 j) * dot (M.1 11 k) (M.1 11 k)) ∧ zrl 0) ∧ ((0 < dot (M.1 11 j) (M.1 11 j) * dot (M.1 11 k) (M.1 11 k) → zF 35 _ _ (fun v M4 => ∃ r4 : Int, v = some (zI r4) ∧ ∀ cl4 : Bool, (zr r4) ∧ ((z_dvl ((r4 * dot (M.1 11 j) (M.1 11 k)) * dot (M.1 11 j) (M.1 11 k)) (dot (M.1 11 j) (M.1 11 j) * dot (M.1 11 k) (M.1 11 k))) ∧ (zq R (.inl (some (zI (((r4 * dot (M.1 11 j) (M.1 11 k)) * dot (M.1 11 j) (M.1 11 k)) / (dot (M.1 11 j) (M.1 11 j) * dot (M.1 11 k) (M.1 11 k)))))) M4 cl4 0)))) ∧ (¬ (0 < dot (M.1 11 j) (M.1 11 j) * dot (M.1 11 k) (M.1 11 k)) → _))))
  refine ⟨by omega, fun c => ⟨rfl, ?_⟩, fun c => ?_⟩
  · rw [jn, if_pos c] at h; exact h
  · have hg := jn_g (t := imin (M.1 10 j 2) (M.1 10 k 2)) hj hk (by omega) (by omega)
    refine ⟨by omega, fun _ => c35 (by omega) (by omega) ⟨_, rfl, fun _ => ⟨by omega, by omega, rfl, ?_⟩⟩, fun c2 => absurd hg.1.1 c2⟩
    rw [jn, if_neg c] at h; exact h
