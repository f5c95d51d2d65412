/-! LONG WORDS: five bits of a row's number -/
theorem u64 (x : Int) : (BitVec.ofInt 64 x).toNat = (x % 18446744073709551616).toNat := by
  rw [BitVec.toNat_ofInt]
  rfl
theorem lAnd_31 (x : Int) : lAnd x 31 = x % 32 := by
  unfold lAnd
  have e : (Int64.ofInt x &&& Int64.ofInt 31).toInt = (BitVec.ofInt 64 x &&& BitVec.ofInt 64 31).toInt := rfl
  rw [e, BitVec.toInt_eq_toNat_bmod, BitVec.toNat_and, u64, u64]
  have e2 : ((31 : Int) % 18446744073709551616).toNat = 2 ^ 5 - 1 := rfl
  rw [e2, Nat.and_two_pow_sub_one_eq_mod, Int.bmod_def]
  split <;> omega
theorem lUshr_m (x : Int) (n : Nat) (hn : n < 64) : lUshr x n % 32 = (x % 18446744073709551616) / 2 ^ n % 32 := by
  unfold lUshr
  have e : ((Int64.ofInt x).toUInt64 >>> ((Int32.ofInt (n : Int)).toInt64.toUInt64 &&& Int64.toUInt64 63)).toInt64.toInt = (BitVec.ofInt 64 x >>> (((BitVec.ofInt 32 (n : Int)).signExtend 64 &&& 63#64) % 64#64)).toInt := rfl
  have e2 : (((BitVec.ofInt 32 (n : Int)).signExtend 64 &&& 63#64) % 64#64) = BitVec.ofNat 64 n := by
    have : ∀ m : Fin 64, (((BitVec.ofInt 32 ((m.val : Nat) : Int)).signExtend 64 &&& 63#64) % 64#64) = BitVec.ofNat 64 m.val := by decide
    exact this ⟨n, hn⟩
  rw [e, e2, BitVec.toInt_eq_toNat_bmod, BitVec.ushiftRight_eq', BitVec.toNat_ushiftRight, BitVec.toNat_ofNat, u64, Nat.mod_eq_of_lt (by omega), Nat.shiftRight_eq_div_pow]
  have e3 : (((x % 18446744073709551616).toNat / 2 ^ n : Nat) : Int) = (x % 18446744073709551616) / 2 ^ n := by
    rw [Int.natCast_ediv, Int.toNat_of_nonneg (Int.emod_nonneg _ (by decide)), Int.natCast_pow]
    rfl
  rw [e3, Int.bmod_def]
  generalize (x % 18446744073709551616) / 2 ^ n = y
  split <;> omega
theorem lShr_m {x : Int} (h0 : -9223372036854775808 ≤ x) (h1 : x < 9223372036854775808) (n : Nat) (hn : n < 64) : lShr x n = x / 2 ^ n := by
  unfold lShr
  have e : (Int64.ofInt x >>> ((Int32.ofInt (n : Int)).toInt64 &&& 63)).toInt = ((BitVec.ofInt 64 x).sshiftRight' (((BitVec.ofInt 32 (n : Int)).signExtend 64 &&& 63#64).smod 64#64)).toInt := rfl
  have e2 : (((BitVec.ofInt 32 (n : Int)).signExtend 64 &&& 63#64).smod 64#64) = BitVec.ofNat 64 n := by
    have : ∀ m : Fin 64, (((BitVec.ofInt 32 ((m.val : Nat) : Int)).signExtend 64 &&& 63#64).smod 64#64) = BitVec.ofNat 64 m.val := by decide
    exact this ⟨n, hn⟩
  rw [e, e2, BitVec.sshiftRight_eq', BitVec.toInt_sshiftRight, BitVec.toNat_ofNat, Nat.mod_eq_of_lt (by omega : n < 2 ^ 64), i64 h0 h1, Int.shiftRight_eq_div_pow]
  norm_cast
theorem row5 {x : Int} (h0 : -9223372036854775808 ≤ x) (h1 : x < 9223372036854775808) {i : Int} (i0 : 0 ≤ i) (i1 : i < 12) : bAnd (w32 (lUshr x (w32 (5 * i)))) 31 = lAnd (lShr x (w32 (5 * i))) 31 := by
  obtain ⟨n, rfl⟩ : ∃ n : Nat, i = n := ⟨i.toNat, by omega⟩
  have e5 : w32 (5 * (n : Int)) = ((5 * n : Nat) : Int) := by rw [w32_id] <;> omega
  rw [e5, bAnd_31, lAnd_31, lShr_m h0 h1 (5 * n) (by clear e5; omega)]
  have k1 : w32 (lUshr x ((5 * n : Nat) : Int)) % 32 = lUshr x ((5 * n : Nat) : Int) % 32 := by
    generalize lUshr x ((5 * n : Nat) : Int) = y
    clear e5
    unfold w32
    omega
  rw [k1, lUshr_m x (5 * n) (by clear e5; omega)]
  clear e5 k1
  have hn : n < 12 := by omega
  have key : ∀ p : Int, (p = 1 ∨ p = 32 ∨ p = 1024 ∨ p = 32768 ∨ p = 1048576 ∨ p = 33554432 ∨ p = 1073741824 ∨ p = 34359738368 ∨ p = 1099511627776 ∨ p = 35184372088832 ∨ p = 1125899906842624 ∨ p = 36028797018963968) → x % 18446744073709551616 / p % 32 = x / p % 32 := by
    intro p hp
    rcases hp with rfl | rfl | rfl | rfl | rfl | rfl | rfl | rfl | rfl | rfl | rfl | rfl <;> omega
  refine key _ ?_
  have : ∀ m : Fin 12, ((2 : Int) ^ (5 * m.val) = 1 ∨ (2 : Int) ^ (5 * m.val) = 32 ∨ (2 : Int) ^ (5 * m.val) = 1024 ∨ (2 : Int) ^ (5 * m.val) = 32768 ∨ (2 : Int) ^ (5 * m.val) = 1048576 ∨ (2 : Int) ^ (5 * m.val) = 33554432 ∨ (2 : Int) ^ (5 * m.val) = 1073741824 ∨ (2 : Int) ^ (5 * m.val) = 34359738368 ∨ (2 : Int) ^ (5 * m.val) = 1099511627776 ∨ (2 : Int) ^ (5 * m.val) = 35184372088832 ∨ (2 : Int) ^ (5 * m.val) = 1125899906842624 ∨ (2 : Int) ^ (5 * m.val) = 36028797018963968) := by decide
  exact this ⟨n, hn⟩
theorem lOr_rg (x y : Int) : -9223372036854775808 ≤ lOr x y ∧ lOr x y < 9223372036854775808 := by
  unfold lOr
  have e : ∀ v : BitVec 64, -9223372036854775808 ≤ v.toInt ∧ v.toInt < 9223372036854775808 := fun v => ⟨BitVec.le_toInt v, BitVec.toInt_lt⟩
  exact e _
theorem row31 (x : Int) : 0 ≤ lAnd x 31 ∧ lAnd x 31 < 32 := by
  rw [lAnd_31]
  omega
