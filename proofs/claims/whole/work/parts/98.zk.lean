/-! ===== words: masks and shifts ===== -/
theorem sw_nat (x : Int) : (Int32.ofInt x).toBitVec.toNat = (x % 4294967296).toNat := by
  have h1 : (Int32.ofInt x).toBitVec.toInt = sw_w x := sw_toInt x
  have h2 := (Int32.ofInt x).toBitVec.isLt
  rw [BitVec.toInt_eq_toNat_cond] at h1
  unfold sw_w at h1
  split at h1 <;> omega
theorem sw_i_nat {b : BitVec 32} (h : b.toNat < 2147483648) : b.toInt = b.toNat := by
  rw [BitVec.toInt_eq_toNat_cond, if_pos (by omega)]
theorem sw_and_m (x : Int) {n : Nat} (hn : n ≤ 31) {z : Int} (hz : (Int32.ofInt z).toBitVec.toNat = 2 ^ n - 1) : sw_and x z = x % (2 ^ n : Nat) := by
  unfold sw_and
  have h1 : (Int32.ofInt x &&& Int32.ofInt z).toInt = ((Int32.ofInt x).toBitVec &&& (Int32.ofInt z).toBitVec).toInt := rfl
  have h2 : ((Int32.ofInt x).toBitVec &&& (Int32.ofInt z).toBitVec).toNat = (x % 4294967296).toNat % 2 ^ n := by
    rw [BitVec.toNat_and, hz, sw_nat, Nat.and_two_pow_sub_one_eq_mod]
  have h3 : (x % 4294967296).toNat % 2 ^ n < 2 ^ n := Nat.mod_lt _ (Nat.two_pow_pos n)
  have h4 : 2 ^ n ≤ 2 ^ 31 := Nat.pow_le_pow_right (by decide) hn
  rw [h1, sw_i_nat (by rw [h2]; omega), h2]
  have h5 : ((x % 4294967296).toNat : Int) = x % 4294967296 := by omega
  rw [Int.natCast_emod, h5]
  apply Int.emod_emod_of_dvd
  have : (2 ^ n : Nat) ∣ 2 ^ 32 := Nat.pow_dvd_pow 2 (by omega)
  exact Int.natCast_dvd_natCast.mpr this
theorem sw_and_255 (x : Int) : sw_and x 255 = x % 256 := sw_and_m x (n := 8) (by decide) (by decide)
theorem sw_and_31 (x : Int) : sw_and x 31 = x % 32 := sw_and_m x (n := 5) (by decide) (by decide)
theorem sw_and_1 (x : Int) : sw_and x 1 = x % 2 := sw_and_m x (n := 1) (by decide) (by decide)
theorem sw_shr_k {x c : Int} (hx : sw_c x) {k : Nat} (hk : k < 32) (hc : ((Int32.ofInt c &&& 31).toBitVec.smod 32).toNat = k) : sw_shr x c = x / (2 ^ k : Nat) := by
  unfold sw_shr
  have h1 : (Int32.ofInt x >>> (Int32.ofInt c &&& 31)).toInt = ((Int32.ofInt x).toBitVec.sshiftRight ((Int32.ofInt c &&& 31).toBitVec.smod 32).toNat).toInt := rfl
  rw [h1, hc, BitVec.toInt_sshiftRight, Int.shiftRight_eq_div_pow]
  have h2 : (Int32.ofInt x).toBitVec.toInt = x := sw_c_id hx
  rw [h2]
theorem sw_ush_k {x c : Int} {k : Nat} (hk : 0 < k) (hk2 : k < 32) (hc : ((Int32.ofInt c).toUInt32 &&& Int32.toUInt32 31).toNat = k) : sw_ush x c = (x % 4294967296) / (2 ^ k : Nat) := by
  unfold sw_ush
  have h1 : ((Int32.ofInt x).toUInt32 >>> ((Int32.ofInt c).toUInt32 &&& Int32.toUInt32 31)).toInt32.toInt = ((Int32.ofInt x).toUInt32 >>> ((Int32.ofInt c).toUInt32 &&& Int32.toUInt32 31)).toBitVec.toInt := rfl
  have h2 : ((Int32.ofInt x).toUInt32 >>> ((Int32.ofInt c).toUInt32 &&& Int32.toUInt32 31)).toBitVec.toNat = (x % 4294967296).toNat / 2 ^ k := by
    have : ((Int32.ofInt x).toUInt32 >>> ((Int32.ofInt c).toUInt32 &&& Int32.toUInt32 31)).toNat = (Int32.ofInt x).toUInt32.toNat >>> (((Int32.ofInt c).toUInt32 &&& Int32.toUInt32 31).toNat % 32) := UInt32.toNat_shiftRight _ _
    have h3 : (Int32.ofInt x).toUInt32.toNat = (x % 4294967296).toNat := sw_nat x
    have h4 : ((Int32.ofInt x).toUInt32 >>> ((Int32.ofInt c).toUInt32 &&& Int32.toUInt32 31)).toBitVec.toNat = ((Int32.ofInt x).toUInt32 >>> ((Int32.ofInt c).toUInt32 &&& Int32.toUInt32 31)).toNat := rfl
    rw [h4, this, hc, Nat.mod_eq_of_lt hk2, h3, Nat.shiftRight_eq_div_pow]
  have h5 : (x % 4294967296).toNat / 2 ^ k ≤ (x % 4294967296).toNat / 2 := by
    apply Nat.div_le_div_left _ (by decide)
    calc 2 = 2 ^ 1 := rfl
      _ ≤ 2 ^ k := Nat.pow_le_pow_right (by decide) hk
  rw [h1, sw_i_nat (by rw [h2]; omega), h2, Int.natCast_ediv]
  congr 1
  omega
theorem sw_shl_k {x c : Int} {k : Nat} (hk : k < 32) (hc : ((Int32.ofInt c &&& 31).toBitVec.smod 32).toNat = k) : sw_shl x c = sw_w (x * (2 ^ k : Nat)) := by
  unfold sw_shl
  have h1 : (Int32.ofInt x <<< (Int32.ofInt c &&& 31)).toBitVec = (Int32.ofInt x).toBitVec <<< ((Int32.ofInt c &&& 31).toBitVec.smod 32) := rfl
  have h2 : (Int32.ofInt x).toBitVec <<< ((Int32.ofInt c &&& 31).toBitVec.smod 32) = (Int32.ofInt (x * (2 ^ k : Nat))).toBitVec := by
    apply BitVec.eq_of_toNat_eq
    rw [BitVec.shiftLeft_eq', hc, BitVec.toNat_shiftLeft, sw_nat, sw_nat, Nat.shiftLeft_eq]
    have e1 : (((x % 4294967296).toNat * 2 ^ k : Nat) : Int) = (x % 4294967296) * (2 ^ k : Nat) := by
      rw [Int.natCast_mul]
      congr 1
      omega
    have e2 : (((x % 4294967296).toNat * 2 ^ k % 2 ^ 32 : Nat) : Int) = (x * (2 ^ k : Nat)) % 4294967296 := by
      rw [Int.natCast_emod, e1]
      show x % 4294967296 * ((2 ^ k : Nat) : Int) % 4294967296 = _
      rw [Int.mul_emod, Int.emod_emod_of_dvd _ (Int.dvd_refl _), ← Int.mul_emod]
    omega
  have h3 : (Int32.ofInt x <<< (Int32.ofInt c &&& 31)).toInt = (Int32.ofInt (x * (2 ^ k : Nat))).toBitVec.toInt := by
    rw [← h2, ← h1]; rfl
  rw [h3]
  exact sw_toInt _
theorem sw_byt_eq (x : Int) : sw_byt x = (x + 128) % 256 - 128 := by
  unfold sw_byt
  have h1 : (Int32.ofInt x).toInt8.toInt32.toInt = (Int32.ofInt x).toInt8.toInt := Int8.toInt_toInt32 _
  have h2 : (Int32.ofInt x).toInt8.toInt = (Int32.ofInt x).toInt.bmod (2 ^ 8) := Int32.toInt_toInt8 _
  rw [h1, h2, sw_toInt]
  unfold sw_w
  simp only [Int.bmod_def]
  omega
theorem sw_or_d {x y : Int} {k : Nat} (hx : 0 ≤ x) (hx1 : x * (2 ^ k : Nat) + y < 2147483648) (hy : 0 ≤ y) (hy1 : y < (2 ^ k : Nat)) : sw_or (x * (2 ^ k : Nat)) y = x * (2 ^ k : Nat) + y := by
  unfold sw_or
  have h1 : (Int32.ofInt (x * (2 ^ k : Nat)) ||| Int32.ofInt y).toInt = ((Int32.ofInt (x * (2 ^ k : Nat))).toBitVec ||| (Int32.ofInt y).toBitVec).toInt := rfl
  have hp : 0 ≤ x * (2 ^ k : Nat) := Int.mul_nonneg hx (by omega)
  have h2 : ((Int32.ofInt (x * (2 ^ k : Nat))).toBitVec ||| (Int32.ofInt y).toBitVec).toNat = x.toNat * 2 ^ k + y.toNat := by
    rw [BitVec.toNat_or, sw_nat, sw_nat]
    have e1 : (x * ((2 ^ k : Nat) : Int) % 4294967296).toNat = 2 ^ k * x.toNat := by
      have : x * ((2 ^ k : Nat) : Int) % 4294967296 = x * ((2 ^ k : Nat) : Int) := by omega
      rw [this]
      have : x * ((2 ^ k : Nat) : Int) = ((2 ^ k * x.toNat : Nat) : Int) := by
        rw [Int.natCast_mul, Int.toNat_of_nonneg hx, Int.mul_comm]
      rw [this]
      rfl
    have e2 : (y % 4294967296).toNat = y.toNat := by omega
    rw [e1, e2, ← Nat.two_pow_add_eq_or_of_lt (by omega : y.toNat < 2 ^ k), Nat.mul_comm]
  have h3 : ((x.toNat * 2 ^ k + y.toNat : Nat) : Int) = x * (2 ^ k : Nat) + y := by
    rw [Int.natCast_add, Int.natCast_mul, Int.toNat_of_nonneg hx, Int.toNat_of_nonneg hy]
  rw [h1, sw_i_nat (by omega), h2, h3]
