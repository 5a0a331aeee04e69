/-! numbers of the machine as whole numbers -/
theorem zi32 {x : Int} (h : R32 x) : (Int32.ofInt x).toInt = x := Int32.toInt_ofInt_of_le (by have := h.1; omega) (by have := h.2; omega)
theorem zi64 {x : Int} (h : R64 x) : (Int64.ofInt x).toInt = x := Int64.toInt_ofInt_of_le (by have := h.1; omega) (by have := h.2; omega)
theorem z32_eq {x y : Int} (hx : R32 x) (hy : R32 y) : (Int32.ofInt x = Int32.ofInt y) ↔ x = y := by
  rw [← Int32.toInt_inj, zi32 hx, zi32 hy]
theorem z32_lt {x y : Int} (hx : R32 x) (hy : R32 y) : (Int32.ofInt x < Int32.ofInt y) ↔ x < y := by
  rw [Int32.lt_iff_toInt_lt, zi32 hx, zi32 hy]
theorem z32_le {x y : Int} (hx : R32 x) (hy : R32 y) : (Int32.ofInt x ≤ Int32.ofInt y) ↔ x ≤ y := by
  rw [Int32.le_iff_toInt_le, zi32 hx, zi32 hy]
theorem z64_eq {x y : Int} (hx : R64 x) (hy : R64 y) : (Int64.ofInt x = Int64.ofInt y) ↔ x = y := by
  rw [← Int64.toInt_inj, zi64 hx, zi64 hy]
theorem z64_lt {x y : Int} (hx : R64 x) (hy : R64 y) : (Int64.ofInt x < Int64.ofInt y) ↔ x < y := by
  rw [Int64.lt_iff_toInt_lt, zi64 hx, zi64 hy]
theorem z64_le {x y : Int} (hx : R64 x) (hy : R64 y) : (Int64.ofInt x ≤ Int64.ofInt y) ↔ x ≤ y := by
  rw [Int64.le_iff_toInt_le, zi64 hx, zi64 hy]
theorem r32_0 : R32 0 := ⟨by decide, by decide⟩
theorem z32_div {x y : Int} (hx : 0 ≤ x ∧ x < 2147483648) (hy : 0 < y ∧ y < 2147483648) : Int32.ofInt x / Int32.ofInt y = Int32.ofInt (x / y) := by
  have h1 : 0 ≤ x / y := Int.ediv_nonneg hx.1 (by omega)
  have h2 : x / y ≤ x := Int.ediv_le_self _ hx.1
  rw [← Int32.toInt_inj, Int32.toInt_div, zi32 ⟨by omega, hx.2⟩, zi32 ⟨by omega, hy.2⟩, zi32 ⟨by omega, by omega⟩, Int.tdiv_eq_ediv_of_nonneg hx.1]
  exact Int.bmod_eq_of_le (by omega) (by omega)
theorem z64_div {x y : Int} (hx : 0 ≤ x ∧ x < 9223372036854775808) (hy : 0 < y ∧ y < 9223372036854775808) : Int64.ofInt x / Int64.ofInt y = Int64.ofInt (x / y) := by
  have h1 : 0 ≤ x / y := Int.ediv_nonneg hx.1 (by omega)
  have h2 : x / y ≤ x := Int.ediv_le_self _ hx.1
  rw [← Int64.toInt_inj, Int64.toInt_div, zi64 ⟨by omega, hx.2⟩, zi64 ⟨by omega, hy.2⟩, zi64 ⟨by omega, by omega⟩, Int.tdiv_eq_ediv_of_nonneg hx.1]
  exact Int.bmod_eq_of_le (by omega) (by omega)
theorem z32_ne0 {y : Int} (hy : 0 < y ∧ y < 2147483648) : ¬ Int32.ofInt y = 0 := fun h => by
  have := (z32_eq (x := y) (y := 0) ⟨by omega, hy.2⟩ r32_0).mp h
  omega
theorem z64_ne0 {y : Int} (hy : 0 < y ∧ y < 9223372036854775808) : ¬ Int64.ofInt y = 0 := fun h => by
  have := (z64_eq (x := y) (y := 0) ⟨by omega, hy.2⟩ ⟨by decide, by decide⟩).mp h
  omega
theorem z32_mod {x y : Int} (hx : 0 ≤ x ∧ x < 2147483648) (hy : 0 < y ∧ y < 2147483648) : Int32.ofInt x - Int32.ofInt x / Int32.ofInt y * Int32.ofInt y = Int32.ofInt (x % y) := by
  rw [z32_div hx hy, ← Int32.ofInt_mul, ← Int32.ofInt_sub]
  congr 1
  rw [Int.emod_def, Int.mul_comm]
theorem z64_mod {x y : Int} (hx : 0 ≤ x ∧ x < 9223372036854775808) (hy : 0 < y ∧ y < 9223372036854775808) : Int64.ofInt x - Int64.ofInt x / Int64.ofInt y * Int64.ofInt y = Int64.ofInt (x % y) := by
  rw [z64_div hx hy, ← Int64.ofInt_mul, ← Int64.ofInt_sub]
  congr 1
  rw [Int.emod_def, Int.mul_comm]
theorem z_sh32 : ∀ n : Nat, n < 32 → (BitVec.ofInt 32 (n : Int) &&& 31#32).smod 32 = BitVec.ofNat 32 n := by decide
theorem z_sh64 : ∀ n : Nat, n < 64 → (BitVec.ofInt 64 (n : Int) &&& 63#64).smod 64 = BitVec.ofNat 64 n := by decide
theorem z_tp (w n : Nat) : BitVec.ofInt w (2 ^ n : Int) = BitVec.twoPow w n := by
  apply BitVec.eq_of_toNat_eq
  rw [BitVec.toNat_ofInt, BitVec.toNat_twoPow]
  have h : ((2 : Int) ^ n % ((2 ^ w : Nat) : Int)) = ((2 ^ n % 2 ^ w : Nat) : Int) := by
    rw [Int.natCast_emod]
    norm_cast
  rw [h, Int.toNat_natCast]
theorem z32_shl {x y : Int} (hy : 0 ≤ y ∧ y < 32) : Int32.ofInt x <<< (Int32.ofInt y &&& 31) = Int32.ofInt (x * 2 ^ y.toNat) := by
  obtain ⟨n, rfl⟩ : ∃ n : Nat, y = n := ⟨y.toNat, by omega⟩
  have hn : n < 32 := by omega
  rw [← Int32.toBitVec_inj, Int32.toBitVec_shiftLeft, Int32.toBitVec_and, Int32.toBitVec_ofInt, Int32.toBitVec_ofInt, Int32.toBitVec_ofInt]
  rw [show (31 : Int32).toBitVec = 31#32 from rfl, z_sh32 n hn, Int.toNat_natCast, BitVec.shiftLeft_eq', BitVec.toNat_ofNat, Nat.mod_eq_of_lt (by omega), BitVec.shiftLeft_eq_mul_twoPow, BitVec.ofInt_mul, z_tp]
theorem z64_shl {x y : Int} (hy : 0 ≤ y ∧ y < 64) : Int64.ofInt x <<< ((Int32.ofInt y).toInt64 &&& 63) = Int64.ofInt (x * 2 ^ y.toNat) := by
  obtain ⟨n, rfl⟩ : ∃ n : Nat, y = n := ⟨y.toNat, by omega⟩
  have hn : n < 64 := by omega
  have h1 : (Int32.ofInt (n : Int)).toInt64 = Int64.ofInt (n : Int) := by
    rw [← Int64.toInt_inj, Int32.toInt_toInt64, zi32 ⟨by omega, by omega⟩, zi64 ⟨by omega, by omega⟩]
  rw [h1, ← Int64.toBitVec_inj, Int64.toBitVec_shiftLeft, Int64.toBitVec_and, Int64.toBitVec_ofInt, Int64.toBitVec_ofInt, Int64.toBitVec_ofInt]
  rw [show (63 : Int64).toBitVec = 63#64 from rfl, z_sh64 n hn, Int.toNat_natCast, BitVec.shiftLeft_eq', BitVec.toNat_ofNat, Nat.mod_eq_of_lt (by omega), BitVec.shiftLeft_eq_mul_twoPow, BitVec.ofInt_mul, z_tp]
theorem z32_shr {x y : Int} (hx : R32 x) (hy : 0 ≤ y ∧ y < 32) : Int32.ofInt x >>> (Int32.ofInt y &&& 31) = Int32.ofInt (x / 2 ^ y.toNat) := by
  obtain ⟨n, rfl⟩ : ∃ n : Nat, y = n := ⟨y.toNat, by omega⟩
  have hn : n < 32 := by omega
  have hX : (BitVec.ofInt 32 x).toInt = x := by
    have := zi32 hx
    rwa [← Int32.toInt_toBitVec, Int32.toBitVec_ofInt] at this
  rw [← Int32.toBitVec_inj, Int32.toBitVec_shiftRight, Int32.toBitVec_and, Int32.toBitVec_ofInt, Int32.toBitVec_ofInt, Int32.toBitVec_ofInt]
  rw [show (31 : Int32).toBitVec = 31#32 from rfl, z_sh32 n hn, Int.toNat_natCast]
  apply BitVec.eq_of_toInt_eq
  rw [BitVec.sshiftRight_eq', BitVec.toInt_sshiftRight, BitVec.toNat_ofNat, Nat.mod_eq_of_lt (by omega), hX, Int.shiftRight_eq_div_pow]
  have h2 : (0 : Int) < ((2 ^ n : Nat) : Int) := by exact_mod_cast Nat.two_pow_pos n
  have h3 : (2 : Int) ^ n = ((2 ^ n : Nat) : Int) := by norm_cast
  rw [h3]
  have ha := hx.1
  have hb := hx.2
  have h4 : -2147483648 ≤ x / ((2 ^ n : Nat) : Int) ∧ x / ((2 ^ n : Nat) : Int) < 2147483648 := by
    constructor
    · have : -2147483648 * ((2 ^ n : Nat) : Int) ≤ x := by
        have h5 : (1 : Int) ≤ ((2 ^ n : Nat) : Int) := h2
        have : -2147483648 * ((2 ^ n : Nat) : Int) ≤ -2147483648 * 1 := by omega
        omega
      exact Int.le_ediv_of_mul_le h2 this
    · refine Int.ediv_lt_of_lt_mul h2 ?_
      have h5 : (1 : Int) ≤ ((2 ^ n : Nat) : Int) := h2
      omega
  have h6 := zi32 h4
  rw [← Int32.toInt_toBitVec, Int32.toBitVec_ofInt] at h6
  exact h6.symm
theorem z_toNat32 (x : Int) : (BitVec.ofInt 32 x).toNat = (x % 4294967296).toNat := by rw [BitVec.toNat_ofInt]; rfl
theorem z_toNat64 (x : Int) : (BitVec.ofInt 64 x).toNat = (x % 18446744073709551616).toNat := by rw [BitVec.toNat_ofInt]; rfl
theorem z_lt32 (x : Int) : (x % 4294967296).toNat < 2 ^ 32 := by omega
theorem z_lt64 (x : Int) : (x % 18446744073709551616).toNat < 2 ^ 64 := by omega
theorem z_nat32 {n : Nat} (h : n < 2 ^ 32) : (BitVec.ofInt 32 (n : Int)).toNat = n := by rw [z_toNat32]; omega
theorem z_nat64 {n : Nat} (h : n < 2 ^ 64) : (BitVec.ofInt 64 (n : Int)).toNat = n := by rw [z_toNat64]; omega
theorem z32_and (x y : Int) : Int32.ofInt x &&& Int32.ofInt y = Int32.ofInt (zand x y) := by
  rw [← Int32.toBitVec_inj, Int32.toBitVec_and, Int32.toBitVec_ofInt, Int32.toBitVec_ofInt, Int32.toBitVec_ofInt]
  apply BitVec.eq_of_toNat_eq
  rw [BitVec.toNat_and, z_toNat32, z_toNat32]
  exact (z_nat32 (Nat.and_lt_two_pow _ (z_lt32 y))).symm
theorem z32_or (x y : Int) : Int32.ofInt x ||| Int32.ofInt y = Int32.ofInt (zor x y) := by
  rw [← Int32.toBitVec_inj, Int32.toBitVec_or, Int32.toBitVec_ofInt, Int32.toBitVec_ofInt, Int32.toBitVec_ofInt]
  apply BitVec.eq_of_toNat_eq
  rw [BitVec.toNat_or, z_toNat32, z_toNat32]
  exact (z_nat32 (Nat.or_lt_two_pow (z_lt32 x) (z_lt32 y))).symm
theorem z32_xor (x y : Int) : Int32.ofInt x ^^^ Int32.ofInt y = Int32.ofInt (zxor x y) := by
  rw [← Int32.toBitVec_inj, Int32.toBitVec_xor, Int32.toBitVec_ofInt, Int32.toBitVec_ofInt, Int32.toBitVec_ofInt]
  apply BitVec.eq_of_toNat_eq
  rw [BitVec.toNat_xor, z_toNat32, z_toNat32]
  exact (z_nat32 (Nat.xor_lt_two_pow (z_lt32 x) (z_lt32 y))).symm
theorem z64_and (x y : Int) : Int64.ofInt x &&& Int64.ofInt y = Int64.ofInt (zandL x y) := by
  rw [← Int64.toBitVec_inj, Int64.toBitVec_and, Int64.toBitVec_ofInt, Int64.toBitVec_ofInt, Int64.toBitVec_ofInt]
  apply BitVec.eq_of_toNat_eq
  rw [BitVec.toNat_and, z_toNat64, z_toNat64]
  exact (z_nat64 (Nat.and_lt_two_pow _ (z_lt64 y))).symm
theorem z64_or (x y : Int) : Int64.ofInt x ||| Int64.ofInt y = Int64.ofInt (zorL x y) := by
  rw [← Int64.toBitVec_inj, Int64.toBitVec_or, Int64.toBitVec_ofInt, Int64.toBitVec_ofInt, Int64.toBitVec_ofInt]
  apply BitVec.eq_of_toNat_eq
  rw [BitVec.toNat_or, z_toNat64, z_toNat64]
  exact (z_nat64 (Nat.or_lt_two_pow (z_lt64 x) (z_lt64 y))).symm
theorem z_us32 : ∀ n : Nat, n < 32 → ((BitVec.ofInt 32 (n : Int) &&& 31#32) % 32#32).toNat = n := by decide
theorem z_us64 : ∀ n : Nat, n < 64 → ((BitVec.ofInt 64 (n : Int) &&& 63#64) % 64#64).toNat = n := by decide
theorem z32_ushr {x y : Int} (hy : 0 ≤ y ∧ y < 32) : ((Int32.ofInt x).toUInt32 >>> ((Int32.ofInt y).toUInt32 &&& Int32.toUInt32 31)).toInt32 = Int32.ofInt (zush x y) := by
  obtain ⟨n, rfl⟩ : ∃ n : Nat, y = n := ⟨y.toNat, by omega⟩
  have hn : n < 32 := by omega
  rw [← Int32.toBitVec_inj, UInt32.toBitVec_toInt32, UInt32.toBitVec_shiftRight, UInt32.toBitVec_and, Int32.toBitVec_toUInt32, Int32.toBitVec_toUInt32, Int32.toBitVec_toUInt32, Int32.toBitVec_ofInt, Int32.toBitVec_ofInt, Int32.toBitVec_ofInt]
  apply BitVec.eq_of_toNat_eq
  rw [BitVec.ushiftRight_eq', BitVec.toNat_ushiftRight, show (31 : Int32).toBitVec = 31#32 from rfl]
  have h1 := z_us32 n hn
  rw [show (32 : BitVec 32) = 32#32 from rfl] at *
  rw [h1, z_toNat32, Nat.shiftRight_eq_div_pow]
  unfold zush
  rw [Int.toNat_natCast]
  have h2 : x % 4294967296 / 2 ^ n = (((x % 4294967296).toNat / 2 ^ n : Nat) : Int) := by
    rw [Int.natCast_ediv, Int.toNat_of_nonneg (by omega), Int.natCast_pow]
    rfl
  rw [h2]
  exact (z_nat32 (Nat.lt_of_le_of_lt (Nat.div_le_self _ _) (z_lt32 x))).symm
theorem z64_ushr {x y : Int} (hy : 0 ≤ y ∧ y < 64) : ((Int64.ofInt x).toUInt64 >>> ((Int32.ofInt y).toInt64.toUInt64 &&& Int64.toUInt64 63)).toInt64 = Int64.ofInt (zushL x y) := by
  obtain ⟨n, rfl⟩ : ∃ n : Nat, y = n := ⟨y.toNat, by omega⟩
  have hn : n < 64 := by omega
  have h0 : (Int32.ofInt (n : Int)).toInt64 = Int64.ofInt (n : Int) := by
    rw [← Int64.toInt_inj, Int32.toInt_toInt64, zi32 ⟨by omega, by omega⟩, zi64 ⟨by omega, by omega⟩]
  rw [h0, ← Int64.toBitVec_inj, UInt64.toBitVec_toInt64, UInt64.toBitVec_shiftRight, UInt64.toBitVec_and, Int64.toBitVec_toUInt64, Int64.toBitVec_toUInt64, Int64.toBitVec_toUInt64, Int64.toBitVec_ofInt, Int64.toBitVec_ofInt, Int64.toBitVec_ofInt]
  apply BitVec.eq_of_toNat_eq
  rw [BitVec.ushiftRight_eq', BitVec.toNat_ushiftRight, show (63 : Int64).toBitVec = 63#64 from rfl]
  have h1 := z_us64 n hn
  rw [show (64 : BitVec 64) = 64#64 from rfl] at *
  rw [h1, z_toNat64, Nat.shiftRight_eq_div_pow]
  unfold zushL
  rw [Int.toNat_natCast]
  have h2 : x % 18446744073709551616 / 2 ^ n = (((x % 18446744073709551616).toNat / 2 ^ n : Nat) : Int) := by
    rw [Int.natCast_ediv, Int.toNat_of_nonneg (by omega), Int.natCast_pow]
    rfl
  rw [h2]
  exact (z_nat64 (Nat.lt_of_le_of_lt (Nat.div_le_self _ _) (z_lt64 x))).symm
theorem z_i2l {x : Int} (hx : R32 x) : (Int32.ofInt x).toInt64 = Int64.ofInt x := by
  have ha := hx.1
  have hb := hx.2
  rw [← Int64.toInt_inj, Int32.toInt_toInt64, zi32 hx, zi64 ⟨by omega, by omega⟩]
theorem z_in {x : Int} {n : Nat} (h : 0 ≤ x ∧ x < (n : Int)) (hn : n < 2147483648) : vp_in (Int32.ofInt x) n ∧ (Int32.ofInt x).toNatClampNeg = x.toNat := by
  have hx : R32 x := ⟨by omega, by omega⟩
  refine ⟨vp_in_iff.mpr ⟨by rw [zi32 hx]; exact h.1, by rw [zi32 hx]; exact h.2⟩, ?_⟩
  show (Int32.ofInt x).toInt.toNat = _
  rw [zi32 hx]
