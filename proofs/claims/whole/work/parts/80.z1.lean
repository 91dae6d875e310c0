-- Ints and longs as whole numbers: what the machine does with their images. (own work)
abbrev zr (x : Int) : Prop := -2147483648 ≤ x ∧ x ≤ 2147483647
abbrev zrl (x : Int) : Prop := -9223372036854775808 ≤ x ∧ x ≤ 9223372036854775807
abbrev zi (x : Int) : Int32 := Int32.ofInt x
abbrev zl (x : Int) : Int64 := Int64.ofInt x
theorem z_ti {x : Int} (h : zr x) : (zi x).toInt = x := Int32.toInt_ofInt_of_le (by omega) (by omega)
theorem z_tl {x : Int} (h : zrl x) : (zl x).toInt = x := Int64.toInt_ofInt_of_le (by omega) (by omega)
theorem z_lt {x y : Int} (hx : zr x) (hy : zr y) : (zi x < zi y) ↔ x < y := by rw [Int32.lt_iff_toInt_lt, z_ti hx, z_ti hy]
theorem z_le {x y : Int} (hx : zr x) (hy : zr y) : (zi x ≤ zi y) ↔ x ≤ y := by rw [Int32.le_iff_toInt_le, z_ti hx, z_ti hy]
theorem z_eq {x y : Int} (hx : zr x) (hy : zr y) : (zi x = zi y) ↔ x = y := by rw [← Int32.toInt_inj, z_ti hx, z_ti hy]
theorem z_ltl {x y : Int} (hx : zrl x) (hy : zrl y) : (zl x < zl y) ↔ x < y := by rw [Int64.lt_iff_toInt_lt, z_tl hx, z_tl hy]
theorem z_eql {x y : Int} (hx : zrl x) (hy : zrl y) : (zl x = zl y) ↔ x = y := by rw [← Int64.toInt_inj, z_tl hx, z_tl hy]
theorem z_nat {x : Int} (h : zr x) : (zi x).toNatClampNeg = x.toNat := by rw [← Int32.toNat_toInt, z_ti h]
theorem z_in {x : Int} {n : Nat} (h : 0 ≤ x ∧ x < (n : Int) ∧ x ≤ 2147483647) : xm_in (zi x) n = true := by
  have hx : zr x := by omega
  have h0 : ¬ (zi x < 0) := by
    have e : (0 : Int32) = zi 0 := rfl
    rw [e, z_lt hx (by omega)]; omega
  simp only [xm_in, z_nat hx, h0, decide_false, Bool.false_or, Bool.not_eq_true']
  have : ¬ n ≤ x.toNat := by omega
  cases hb : Nat.ble n x.toNat with
  | false => rfl
  | true => exact absurd (Nat.le_of_ble_eq_true hb) this
theorem z_div {x y : Int} (h : (0 ≤ x ∧ x ≤ 2147483647) ∧ 0 < y ∧ y ≤ 2147483647) : zi x / zi y = zi (x / y) := by
  rw [← Int.tdiv_eq_ediv_of_nonneg h.1.1]
  exact (Int32.ofInt_tdiv (by rw [Int32.toInt_minValue]; omega) (by rw [Int32.toInt_maxValue]; omega) (by rw [Int32.toInt_minValue]; omega) (by rw [Int32.toInt_maxValue]; omega)).symm
theorem z_divl {x y : Int} (h : (0 ≤ x ∧ x ≤ 9223372036854775807) ∧ 0 < y ∧ y ≤ 9223372036854775807) : zl x / zl y = zl (x / y) := by
  rw [← Int.tdiv_eq_ediv_of_nonneg h.1.1]
  exact (Int64.ofInt_tdiv (by rw [Int64.toInt_minValue]; omega) (by rw [Int64.toInt_maxValue]; omega) (by rw [Int64.toInt_minValue]; omega) (by rw [Int64.toInt_maxValue]; omega)).symm
theorem z_rem {x y : Int} (h : (0 ≤ x ∧ x ≤ 2147483647) ∧ 0 < y ∧ y ≤ 2147483647) : zi x - zi x / zi y * zi y = zi (x % y) := by
  rw [z_div h, ← Int32.ofInt_mul, ← Int32.ofInt_sub]
  congr 1
  rw [Int.emod_def, Int.mul_comm]
theorem z_ne0 {y : Int} (h : 0 < y ∧ y ≤ 2147483647) : (zi y == 0) = false := by
  have : ¬ (zi y = zi 0) := by rw [z_eq (by omega) (by omega)]; omega
  have h0 : ¬ (zi y = 0) := this
  simpa using h0
theorem z_ne0l {y : Int} (h : 0 < y ∧ y ≤ 9223372036854775807) : (zl y == 0) = false := by
  have : ¬ (zl y = zl 0) := by rw [z_eql (by omega) (by omega)]; omega
  have h0 : ¬ (zl y = 0) := this
  simpa using h0
-- the bits below
theorem z_bv (x : Int) : (zi x).toBitVec.toNat = (x % 4294967296).toNat := by simp [BitVec.toNat_ofInt]
theorem z_bvl (x : Int) : (zl x).toBitVec.toNat = (x % 18446744073709551616).toNat := by simp [BitVec.toNat_ofInt]
theorem z_ext {a b : Int32} (h : a.toBitVec.toNat = b.toBitVec.toNat) : a = b := Int32.toBitVec_inj.1 (BitVec.eq_of_toNat_eq h)
theorem z_extl {a b : Int64} (h : a.toBitVec.toNat = b.toBitVec.toNat) : a = b := Int64.toBitVec_inj.1 (BitVec.eq_of_toNat_eq h)
theorem z_and {x y : Int} (h : y = 1 ∨ y = 31 ∨ y = 255) : zi x &&& zi y = zi (x % (y + 1)) := by
  apply z_ext
  rw [Int32.toBitVec_and, BitVec.toNat_and, z_bv, z_bv, z_bv]
  rcases h with h | h | h <;> subst h
  · rw [show ((1 : Int) % 4294967296).toNat = 2 ^ 1 - 1 from rfl, Nat.and_two_pow_sub_one_eq_mod]; omega
  · rw [show ((31 : Int) % 4294967296).toNat = 2 ^ 5 - 1 from rfl, Nat.and_two_pow_sub_one_eq_mod]; omega
  · rw [show ((255 : Int) % 4294967296).toNat = 2 ^ 8 - 1 from rfl, Nat.and_two_pow_sub_one_eq_mod]; omega
theorem z_andl {x y : Int} (h : y = 255 ∨ y = 4294967295) : zl x &&& zl y = zl (x % (y + 1)) := by
  apply z_extl
  rw [Int64.toBitVec_and, BitVec.toNat_and, z_bvl, z_bvl, z_bvl]
  rcases h with h | h <;> subst h
  · rw [show ((255 : Int) % 18446744073709551616).toNat = 2 ^ 8 - 1 from rfl, Nat.and_two_pow_sub_one_eq_mod]; omega
  · rw [show ((4294967295 : Int) % 18446744073709551616).toNat = 2 ^ 32 - 1 from rfl, Nat.and_two_pow_sub_one_eq_mod]; omega
abbrev z_p (x : Int) : Prop := 0 ≤ x ∧ x ≤ 2147483647
theorem z_or {x y : Int} (hx : z_p x) (hy : z_p y) : zi x ||| zi y = zi (Int.ofNat (x.toNat ||| y.toNat)) := by
  apply z_ext
  rw [Int32.toBitVec_or, BitVec.toNat_or, z_bv, z_bv, z_bv]
  have h1 : x.toNat < 2 ^ 31 := by omega
  have h2 : y.toNat < 2 ^ 31 := by omega
  have h3 := Nat.or_lt_two_pow h1 h2
  rw [show (x % 4294967296).toNat = x.toNat by omega, show (y % 4294967296).toNat = y.toNat by omega]
  simp only [Int.ofNat_eq_natCast]
  omega
theorem z_xor {x y : Int} (hx : z_p x) (hy : z_p y) : zi x ^^^ zi y = zi (Int.ofNat (x.toNat ^^^ y.toNat)) := by
  apply z_ext
  rw [Int32.toBitVec_xor, BitVec.toNat_xor, z_bv, z_bv, z_bv]
  have h1 : x.toNat < 2 ^ 31 := by omega
  have h2 : y.toNat < 2 ^ 31 := by omega
  have h3 := Nat.xor_lt_two_pow h1 h2
  rw [show (x % 4294967296).toNat = x.toNat by omega, show (y % 4294967296).toNat = y.toNat by omega]
  simp only [Int.ofNat_eq_natCast]
  omega
theorem z_orl {x y : Int} (h : x % 4294967296 = 0 ∧ 0 ≤ y ∧ y < 4294967296) : zl x ||| zl y = zl (x + y) := by
  apply z_extl
  rw [Int64.toBitVec_or, BitVec.toNat_or, z_bvl, z_bvl, z_bvl]
  have h1 : (x % 18446744073709551616).toNat = 2 ^ 32 * ((x % 18446744073709551616).toNat / 2 ^ 32) := by omega
  rw [h1, ← Nat.two_pow_add_eq_or_of_lt (by omega)]
  omega
theorem z_sh (n : Nat) (h : n < 32) : ((zi (n : Int)) &&& 31).toBitVec.smod 32 = BitVec.ofNat 32 n := by
  have : ∀ n : Fin 32, ((zi (n.val : Int)) &&& 31).toBitVec.smod 32 = BitVec.ofNat 32 n.val := by decide
  exact this ⟨n, h⟩
theorem z_shl {x y : Int} (h : 0 ≤ y ∧ y < 32) : zi x <<< (zi y &&& 31) = zi (x * 2 ^ y.toNat) := by
  obtain ⟨n, rfl⟩ : ∃ n : Nat, y = (n : Int) := ⟨y.toNat, by omega⟩
  apply z_ext
  rw [Int32.toBitVec_shiftLeft, z_sh n (by omega), z_bv]
  have hn : n % 4294967296 = n := Nat.mod_eq_of_lt (by omega)
  simp only [BitVec.shiftLeft_eq', BitVec.toNat_ofNat, BitVec.toNat_shiftLeft, Int.toNat_natCast]
  rw [show (2 : Nat) ^ 32 = 4294967296 from rfl, hn, z_bv, Nat.shiftLeft_eq]
  have h1 : ((x % 4294967296).toNat : Int) = x % 4294967296 := by omega
  apply Int.ofNat_inj.1
  have h2 := Int.emod_nonneg (x * 2 ^ n) (show (4294967296 : Int) ≠ 0 by decide)
  rw [Int.natCast_emod, Int.natCast_mul, h1, Int.toNat_of_nonneg h2]
  have e : ∀ p : Int, x % 4294967296 * p % 4294967296 = x * p % 4294967296 := fun p => by rw [Int.mul_emod, Int.emod_emod, ← Int.mul_emod]
  rw [show ((2 ^ n : Nat) : Int) = 2 ^ n from by simp]
  exact e _
theorem z_shr {x y : Int} (hx : zr x) (h : 0 ≤ y ∧ y < 32) : zi x >>> (zi y &&& 31) = zi (x / 2 ^ y.toNat) := by
  obtain ⟨n, rfl⟩ : ∃ n : Nat, y = (n : Int) := ⟨y.toNat, by omega⟩
  apply Int32.toInt_inj.1
  have hn : n % 4294967296 = n := Nat.mod_eq_of_lt (by omega)
  have e : (zi x >>> (zi (n : Int) &&& 31)).toInt = (zi x >>> (zi (n : Int) &&& 31)).toBitVec.toInt := rfl
  rw [e, Int32.toBitVec_shiftRight, z_sh n (by omega), show ∀ (a b : BitVec 32), a.sshiftRight' b = a.sshiftRight b.toNat from fun _ _ => rfl, BitVec.toInt_sshiftRight, BitVec.toNat_ofNat, show (2 : Nat) ^ 32 = 4294967296 from rfl, hn, Int.shiftRight_eq_div_pow]
  have e2 : (zi x).toBitVec.toInt = (zi x).toInt := rfl
  have hp : (0 : Int) < 2 ^ n := Int.pow_pos (by decide)
  have h1 : x / 2 ^ n ≤ 2147483647 := by
    apply Int.ediv_le_of_le_mul hp
    have : (2147483647 : Int) * 1 ≤ 2147483647 * 2 ^ n := Int.mul_le_mul_of_nonneg_left (by omega) (by decide)
    omega
  have h2 : -2147483648 ≤ x / 2 ^ n := by
    apply Int.le_ediv_of_mul_le hp
    have : (2147483648 : Int) * 1 ≤ 2147483648 * 2 ^ n := Int.mul_le_mul_of_nonneg_left (by omega) (by decide)
    rw [Int.neg_mul]
    omega
  rw [e2, z_ti hx, Int.toNat_natCast, z_ti ⟨h2, h1⟩]
  simp
theorem z_shq (n : Nat) (h : n < 64) : ((zi (n : Int)).toInt64 &&& 63).toBitVec.smod 64 = BitVec.ofNat 64 n := by
  have : ∀ n : Fin 64, ((zi (n.val : Int)).toInt64 &&& 63).toBitVec.smod 64 = BitVec.ofNat 64 n.val := by decide
  exact this ⟨n, h⟩
theorem z_shll {x y : Int} (h : 0 ≤ y ∧ y < 64) : zl x <<< ((zi y).toInt64 &&& 63) = zl (x * 2 ^ y.toNat) := by
  obtain ⟨n, rfl⟩ : ∃ n : Nat, y = (n : Int) := ⟨y.toNat, by omega⟩
  apply z_extl
  rw [Int64.toBitVec_shiftLeft, z_shq n (by omega), z_bvl]
  have hn : n % 18446744073709551616 = n := Nat.mod_eq_of_lt (by omega)
  simp only [BitVec.shiftLeft_eq', BitVec.toNat_ofNat, BitVec.toNat_shiftLeft, Int.toNat_natCast]
  rw [show (2 : Nat) ^ 64 = 18446744073709551616 from rfl, hn, z_bvl, Nat.shiftLeft_eq]
  have h1 : ((x % 18446744073709551616).toNat : Int) = x % 18446744073709551616 := by omega
  apply Int.ofNat_inj.1
  have h2 := Int.emod_nonneg (x * 2 ^ n) (show (18446744073709551616 : Int) ≠ 0 by decide)
  rw [Int.natCast_emod, Int.natCast_mul, h1, Int.toNat_of_nonneg h2]
  have e : ∀ p : Int, x % 18446744073709551616 * p % 18446744073709551616 = x * p % 18446744073709551616 := fun p => by rw [Int.mul_emod, Int.emod_emod, ← Int.mul_emod]
  rw [show ((2 ^ n : Nat) : Int) = 2 ^ n from by simp]
  exact e _
theorem z_shu (n : Nat) (h : n < 64) : ((zi (n : Int)).toInt64.toUInt64 &&& Int64.toUInt64 63).toBitVec.toNat % 64 = n := by
  have : ∀ n : Fin 64, ((zi (n.val : Int)).toInt64.toUInt64 &&& Int64.toUInt64 63).toBitVec.toNat % 64 = n.val := by decide
  exact this ⟨n, h⟩
theorem z_ushr {x y : Int} (h : 0 ≤ y ∧ y < 64) : ((zl x).toUInt64 >>> ((zi y).toInt64.toUInt64 &&& Int64.toUInt64 63)).toInt64 = zl (x % 18446744073709551616 / 2 ^ y.toNat) := by
  obtain ⟨n, rfl⟩ : ∃ n : Nat, y = (n : Int) := ⟨y.toNat, by omega⟩
  apply z_extl
  have h0 := z_shu n (by omega)
  have e1 : ((zl x).toUInt64 >>> ((zi (n : Int)).toInt64.toUInt64 &&& Int64.toUInt64 63)).toInt64.toBitVec.toNat = ((zl x).toUInt64 >>> ((zi (n : Int)).toInt64.toUInt64 &&& Int64.toUInt64 63)).toNat := rfl
  rw [e1, UInt64.toNat_shiftRight]
  have e2 : ((zi (n : Int)).toInt64.toUInt64 &&& Int64.toUInt64 63).toNat % 64 = n := h0
  have e3 : (zl x).toUInt64.toNat = (zl x).toBitVec.toNat := rfl
  rw [e2, e3, z_bvl, z_bvl, Nat.shiftRight_eq_div_pow, Int.toNat_natCast]
  apply Int.ofNat_inj.1
  have h3 : (0 : Int) ≤ x % 18446744073709551616 := by omega
  have h4 : (0 : Int) < 2 ^ n := Int.pow_pos (by decide)
  have h5 : 0 ≤ x % 18446744073709551616 / 2 ^ n := Int.ediv_nonneg h3 (Int.le_of_lt h4)
  have h6 : x % 18446744073709551616 / 2 ^ n ≤ x % 18446744073709551616 := Int.ediv_le_self _ h3
  rw [Int.natCast_ediv, Int.toNat_of_nonneg h3, Int.toNat_of_nonneg (by omega), Int.natCast_pow]
  have h7 : x % 18446744073709551616 / 2 ^ n % 18446744073709551616 = x % 18446744073709551616 / 2 ^ n := by omega
  rw [h7]
  rfl
theorem z_i2l {x : Int} (h : zr x) : (zi x).toInt64 = zl x := Int32.toInt64_ofInt (by rw [Int32.toInt_minValue]; omega) (by rw [Int32.toInt_maxValue]; omega)
theorem z_l2i (x : Int) : (zl x).toInt32 = zi x := Int64.toInt32_ofInt
theorem z_nar {x : Int} (h : 0 ≤ x ∧ x ≤ 65535) : xm_nar (zi x) = zi x := by
  obtain ⟨n, rfl⟩ : ∃ n : Nat, x = (n : Int) := ⟨x.toNat, by omega⟩
  apply z_ext
  have e : (xm_nar (zi (n : Int))).toBitVec.toNat = ((zi (n : Int)).toUInt32.toUInt16).toUInt32.toNat := rfl
  have e2 : (zi (n : Int)).toUInt32.toNat = (zi (n : Int)).toBitVec.toNat := rfl
  rw [e, UInt16.toNat_toUInt32, UInt32.toNat_toUInt16, e2, z_bv]
  omega
theorem z_nc {x : Int} (h : 0 ≤ x ∧ x ≤ 65535) : xm_nc (zi x) = zi x := by
  apply z_ext
  have e : (xm_nc (zi x)).toBitVec.toNat = ((zi x).toUInt32 % 65536).toNat := rfl
  have e2 : (zi x).toUInt32.toNat = (zi x).toBitVec.toNat := rfl
  rw [e, UInt32.toNat_mod, e2, z_bv, show (65536 : UInt32).toNat = 65536 from rfl]
  omega
def z_cmp (x y : Int) : Int := if y < x then 1 else if x = y then 0 else -1
theorem z_lcmp {x y : Int} (hx : zrl x) (hy : zrl y) : lg_cmp (zl x) (zl y) = zi (z_cmp x y) := by
  simp only [lg_cmp, z_cmp, gt_iff_lt, z_ltl hy hx, z_eql hx hy]
  split
  · rfl
  · split <;> rfl
theorem z_cmp_eq {x y : Int} : z_cmp x y = 0 ↔ x = y := by unfold z_cmp; split <;> (try split) <;> omega
theorem z_cmp_lt {x y : Int} : z_cmp x y < 0 ↔ x < y := by unfold z_cmp; split <;> (try split) <;> omega
theorem z_cmp_le {x y : Int} : z_cmp x y ≤ 0 ↔ x ≤ y := by unfold z_cmp; split <;> (try split) <;> omega
theorem z_cmp_gt {x y : Int} : 0 < z_cmp x y ↔ y < x := by unfold z_cmp; split <;> (try split) <;> omega
theorem z_cmp_ge {x y : Int} : 0 ≤ z_cmp x y ↔ y ≤ x := by unfold z_cmp; split <;> (try split) <;> omega
theorem z_cmp_r (x y : Int) : zr (z_cmp x y) := by unfold z_cmp; split <;> (try split) <;> omega
