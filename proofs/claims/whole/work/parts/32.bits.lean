/-! NUMBERS: what the machine's bit words are on the numbers that come -/
theorem u32 (x : Int) : (BitVec.ofInt 32 x).toNat = (x % 4294967296).toNat := by
  rw [BitVec.toNat_ofInt]
  rfl
theorem bAnd_n (x y : Int) : bAnd x y = w32 (((x % 4294967296).toNat &&& (y % 4294967296).toNat : Nat) : Int) := by
  unfold bAnd
  have e : (Int32.ofInt x &&& Int32.ofInt y).toInt = (BitVec.ofInt 32 x &&& BitVec.ofInt 32 y).toInt := rfl
  rw [e, BitVec.toInt_eq_toNat_bmod, BitVec.toNat_and, u32, u32]
  unfold w32
  rw [Int.bmod_def]
  split <;> omega
theorem bOr_n (x y : Int) : bOr x y = w32 (((x % 4294967296).toNat ||| (y % 4294967296).toNat : Nat) : Int) := by
  unfold bOr
  have e : (Int32.ofInt x ||| Int32.ofInt y).toInt = (BitVec.ofInt 32 x ||| BitVec.ofInt 32 y).toInt := rfl
  rw [e, BitVec.toInt_eq_toNat_bmod, BitVec.toNat_or, u32, u32]
  unfold w32
  rw [Int.bmod_def]
  split <;> omega
theorem bUshr_n (x k : Int) (h0 : 0 ≤ k) (h1 : k < 32) : bUshr x k = w32 (((x % 4294967296).toNat >>> k.toNat : Nat) : Int) := by
  obtain ⟨n, rfl⟩ : ∃ n : Nat, k = n := ⟨k.toNat, by omega⟩
  have hn : n < 32 := by omega
  unfold bUshr
  have e : ((Int32.ofInt x).toUInt32 >>> ((Int32.ofInt (n : Int)).toUInt32 &&& Int32.toUInt32 31)).toInt32.toInt = (BitVec.ofInt 32 x >>> ((BitVec.ofInt 32 (n : Int) &&& 31#32) % 32#32)).toInt := rfl
  have e2 : ((BitVec.ofInt 32 (n : Int) &&& 31#32) % 32#32) = BitVec.ofNat 32 n := by
    have : ∀ m : Fin 32, ((BitVec.ofInt 32 ((m.val : Nat) : Int) &&& 31#32) % 32#32) = BitVec.ofNat 32 m.val := by decide
    exact this ⟨n, hn⟩
  rw [e, e2, BitVec.toInt_eq_toNat_bmod, BitVec.ushiftRight_eq', BitVec.toNat_ushiftRight, BitVec.toNat_ofNat, u32, Nat.mod_eq_of_lt (by omega)]
  unfold w32
  rw [Int.bmod_def]
  simp only [Int.toNat_natCast]
  split <;> omega
theorem s31 {n : Nat} (hn : n < 32) : ((BitVec.ofInt 32 (n : Int) &&& 31#32).smod 32#32) = BitVec.ofNat 32 n := by
  have : ∀ m : Fin 32, ((BitVec.ofInt 32 ((m.val : Nat) : Int) &&& 31#32).smod 32#32) = BitVec.ofNat 32 m.val := by decide
  exact this ⟨n, hn⟩
theorem bShl_n (x k : Int) (h0 : 0 ≤ k) (h1 : k < 32) : bShl x k = w32 (((x % 4294967296).toNat <<< k.toNat : Nat) : Int) := by
  obtain ⟨n, rfl⟩ : ∃ n : Nat, k = n := ⟨k.toNat, by omega⟩
  have hn : n < 32 := by omega
  unfold bShl
  have e : (Int32.ofInt x <<< (Int32.ofInt (n : Int) &&& 31)).toInt = (BitVec.ofInt 32 x <<< ((BitVec.ofInt 32 (n : Int) &&& 31#32).smod 32#32)).toInt := rfl
  rw [e, s31 hn, BitVec.toInt_eq_toNat_bmod, BitVec.shiftLeft_eq', BitVec.toNat_shiftLeft, BitVec.toNat_ofNat, u32, Nat.mod_eq_of_lt (by omega : n < 2 ^ 32)]
  unfold w32
  rw [Int.bmod_def]
  simp only [Int.toNat_natCast]
  split <;> omega
theorem bShr_n (x k : Int) (h0 : 0 ≤ k) (h1 : k < 32) (hx : 0 ≤ x) (hx2 : x < 2147483648) : bShr x k = ((x.toNat >>> k.toNat : Nat) : Int) := by
  obtain ⟨n, rfl⟩ : ∃ n : Nat, k = n := ⟨k.toNat, by omega⟩
  have hn : n < 32 := by omega
  unfold bShr
  have e : (Int32.ofInt x >>> (Int32.ofInt (n : Int) &&& 31)).toInt = ((BitVec.ofInt 32 x).sshiftRight' ((BitVec.ofInt 32 (n : Int) &&& 31#32).smod 32#32)).toInt := rfl
  rw [e, s31 hn, BitVec.sshiftRight_eq', BitVec.toInt_sshiftRight, BitVec.toNat_ofNat, Nat.mod_eq_of_lt (by omega : n < 2 ^ 32), BitVec.toInt_ofInt]
  rw [Int.bmod_def, if_pos (by omega), Int.emod_eq_of_lt hx (by omega)]
  obtain ⟨m, rfl⟩ : ∃ m : Nat, x = m := ⟨x.toNat, by omega⟩
  rfl
theorem bAnd_m (x : Int) (n : Nat) (hn : n < 31) : bAnd x (2 ^ n - 1) = x % 2 ^ n := by
  have h2 : (2 : Int) ^ n ≤ 1073741824 := by
    have : ∀ m : Fin 31, (2 : Int) ^ m.val ≤ 1073741824 := by decide
    exact this ⟨n, hn⟩
  have h3 : (0 : Int) < 2 ^ n := Int.pow_pos (by decide)
  have h4 : (4294967296 : Int) = 2 ^ n * 2 ^ (32 - n) := by
    rw [← Int.pow_add, show n + (32 - n) = 32 by omega]
    rfl
  have h5 : ((2 : Int) ^ n - 1) % 4294967296 = 2 ^ n - 1 := Int.emod_eq_of_lt (by omega) (by omega)
  have h6 : ((2 : Int) ^ n - 1).toNat = 2 ^ n - 1 := by
    have : ((2 ^ n : Nat) : Int) = 2 ^ n := by rw [Int.natCast_pow]; rfl
    omega
  rw [bAnd_n, h5, h6, Nat.and_two_pow_sub_one_eq_mod]
  have h7 : (((x % 4294967296).toNat % 2 ^ n : Nat) : Int) = x % 2 ^ n := by
    rw [Int.natCast_emod, Int.toNat_of_nonneg (Int.emod_nonneg _ (by decide)), Int.natCast_pow]
    show x % 4294967296 % 2 ^ n = _
    exact Int.emod_emod_of_dvd _ ⟨_, h4⟩
  rw [h7, w32_id]
  · have := Int.emod_nonneg x (show (2 : Int) ^ n ≠ 0 by omega)
    omega
  · have := Int.emod_lt_of_pos x h3
    omega
theorem bAnd_255 (x : Int) : bAnd x 255 = x % 256 := bAnd_m x 8 (by decide)
theorem bAnd_1 (x : Int) : bAnd x 1 = x % 2 := bAnd_m x 1 (by decide)
theorem bAnd_31 (x : Int) : bAnd x 31 = x % 32 := bAnd_m x 5 (by decide)
theorem bAnd_1023 (x : Int) : bAnd x 1023 = x % 1024 := bAnd_m x 10 (by decide)
/-- byte by byte -/
theorem bUshr_d (x : Int) (n : Nat) (hn : 0 < n) (h1 : n < 32) : bUshr x n = x % 4294967296 / 2 ^ n := by
  rw [bUshr_n x n (by omega) (by omega), Int.toNat_natCast, Nat.shiftRight_eq_div_pow, Int.natCast_ediv, Int.toNat_of_nonneg (Int.emod_nonneg _ (by decide)), Int.natCast_pow]
  have h2 : (2 : Int) ≤ 2 ^ n := by
    have : ∀ m : Fin 32, 0 < m.val → (2 : Int) ≤ 2 ^ m.val := by decide
    exact this ⟨n, h1⟩ hn
  have h3 : x % 4294967296 / 2 ^ n < 2147483648 := Int.ediv_lt_of_lt_mul (by omega) (by omega)
  refine w32_id ?_ ?_
  · have : 0 ≤ x % 4294967296 / 2 ^ n := Int.ediv_nonneg (by omega) (by omega)
    show _ ≤ x % 4294967296 / 2 ^ n
    omega
  · show x % 4294967296 / 2 ^ n < _
    omega
theorem bUshr_24 (x : Int) : bUshr x 24 = x % 4294967296 / 16777216 := bUshr_d x 24 (by decide) (by decide)
theorem bUshr_16 (x : Int) : bUshr x 16 = x % 4294967296 / 65536 := bUshr_d x 16 (by decide) (by decide)
theorem bUshr_8 (x : Int) : bUshr x 8 = x % 4294967296 / 256 := bUshr_d x 8 (by decide) (by decide)
theorem bUshr_0 (x : Int) : bUshr x 0 = w32 x := by
  rw [bUshr_n x 0 (by decide) (by decide)]
  show w32 (((x % 4294967296).toNat >>> 0 : Nat) : Int) = _
  rw [Nat.shiftRight_zero]
  unfold w32
  omega
/-- quotients and rests -/
theorem i32 {x : Int} (h0 : -2147483648 ≤ x) (h1 : x < 2147483648) : (BitVec.ofInt 32 x).toInt = x := by
  rw [BitVec.toInt_ofInt, Int.bmod_def]
  split <;> omega
theorem i64 {x : Int} (h0 : -9223372036854775808 ≤ x) (h1 : x < 9223372036854775808) : (BitVec.ofInt 64 x).toInt = x := by
  rw [BitVec.toInt_ofInt, Int.bmod_def]
  split <;> omega
theorem bDiv_p {x y : Int} (h0 : 0 ≤ x) (h1 : x < 2147483648) (h2 : 0 < y) (h3 : y < 2147483648) : bDiv x y = x / y := by
  unfold bDiv
  have e : (Int32.ofInt x / Int32.ofInt y).toInt = ((BitVec.ofInt 32 x).sdiv (BitVec.ofInt 32 y)).toInt := rfl
  rw [e, BitVec.toInt_sdiv, i32 (by omega) (by omega), i32 (by omega) (by omega), Int.tdiv_eq_ediv_of_nonneg h0]
  have := Int.ediv_nonneg h0 (Int.le_of_lt h2)
  have := Int.ediv_le_self y h0
  rw [Int.bmod_def]
  split <;> omega
theorem bRem_p {x y : Int} (h0 : 0 ≤ x) (h1 : x < 2147483648) (h2 : 0 < y) (h3 : y < 2147483648) : bRem x y = x % y := by
  unfold bRem
  have e : (Int32.ofInt x - Int32.ofInt x / Int32.ofInt y * Int32.ofInt y).toInt = (BitVec.ofInt 32 x - (BitVec.ofInt 32 x).sdiv (BitVec.ofInt 32 y) * BitVec.ofInt 32 y).toInt := rfl
  have d1 : ((BitVec.ofInt 32 x).sdiv (BitVec.ofInt 32 y)).toInt = x / y := bDiv_p h0 h1 h2 h3
  rw [e, BitVec.toInt_sub, BitVec.toInt_mul, d1, i32 (by omega) (by omega), i32 (by omega) (by omega)]
  have a1 := Int.ediv_nonneg h0 (Int.le_of_lt h2)
  have a2 : y * (x / y) + x % y = x := Int.mul_ediv_add_emod x y
  have a3 := Int.emod_nonneg x (show y ≠ 0 by omega)
  have a4 := Int.emod_lt_of_pos x h2
  have a5 : x / y * y = x - x % y := by rw [Int.mul_comm]; omega
  have a6 : 0 ≤ x / y * y := Int.mul_nonneg a1 (by omega)
  rw [a5] at a6 ⊢
  have a7 : (x - x % y).bmod (2 ^ 32) = x - x % y := by
    rw [Int.bmod_def]
    split <;> omega
  rw [a7, Int.bmod_def]
  split <;> omega
theorem lDiv_p {x y : Int} (h0 : -1000000000 ≤ x) (h1 : x ≤ 1000000000) (h2 : y ≠ 0) (h3 : -1000000000 ≤ y) (h4 : y ≤ 1000000000) : lDiv x y = x.tdiv y := by
  unfold lDiv
  have e : (Int64.ofInt x / Int64.ofInt y).toInt = ((BitVec.ofInt 64 x).sdiv (BitVec.ofInt 64 y)).toInt := rfl
  rw [e, BitVec.toInt_sdiv, i64 (by omega) (by omega), i64 (by omega) (by omega)]
  have h5 : (x.tdiv y).natAbs ≤ x.natAbs := by
    rw [Int.natAbs_tdiv]
    exact Nat.div_le_self _ _
  rw [Int.bmod_def]
  split <;> omega
