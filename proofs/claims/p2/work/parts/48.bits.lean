/-! PURE PROOFS 26: bits -/
theorem sh_amt : ∀ n : Nat, n < 32 → ((Int32.ofInt n &&& 31).toBitVec.smod 32).toNat = n := by decide +kernel
theorem jshr_n {a : Int} {n : Nat} (ha : inR a) (hn : n < 32) : jshr a n = a / 2 ^ n := by
  unfold jshr
  rw [← Int32.toInt_toBitVec, Int32.toBitVec_shiftRight, BitVec.sshiftRight_eq', sh_amt n hn, BitVec.toInt_sshiftRight, Int32.toInt_toBitVec, i_to ha, Int.shiftRight_eq_div_pow]
  rfl
theorem jshl_n {a : Int} {n : Nat} (hn : n < 32) : jshl a n = w32 (a * 2 ^ n) := by
  unfold jshl
  rw [← Int32.toInt_toBitVec, Int32.toBitVec_shiftLeft, BitVec.shiftLeft_eq', sh_amt n hn, BitVec.toInt_shiftLeft, Int32.toBitVec_ofInt, BitVec.toNat_ofInt, Int.natCast_shiftLeft, Int.shiftLeft_eq, ← w32_bm, Int.toNat_of_nonneg (Int.emod_nonneg _ (by decide))]
  show ((a % 4294967296) * 2 ^ n).bmod 4294967296 = (a * 2 ^ n).bmod 4294967296
  rw [← Int.emod_bmod, ← Int.emod_bmod (x := a * 2 ^ n)]
  congr 1
  show (a % 4294967296 * 2 ^ n) % 4294967296 = (a * 2 ^ n) % 4294967296
  rw [Int.mul_emod, Int.emod_emod, ← Int.mul_emod]
theorem w8_sh {a : Int} : jshr (jshl a 24) 24 = w8 a := by
  have h1 := jshl_n (a := a) (n := 24) (by decide)
  have h2 := jshr_n (a := jshl a 24) (n := 24) (by
    have h1 : jshl a 24 = w32 (a * 2 ^ 24) := h1
    rw [h1]
    unfold inR w32
    omega) (by decide)
  have h1 : jshl a 24 = w32 (a * 2 ^ 24) := h1
  have h2 : jshr (jshl a 24) 24 = jshl a 24 / 2 ^ 24 := h2
  rw [h2, h1]
  unfold w32 w8
  omega
theorem w16_sh {a : Int} : jshr (jshl a 16) 16 = w16 a := by
  have h1 : jshl a 16 = w32 (a * 2 ^ 16) := jshl_n (n := 16) (by decide)
  have h2 : jshr (jshl a 16) 16 = jshl a 16 / 2 ^ 16 := jshr_n (n := 16) (by
    rw [h1]
    unfold inR w32
    omega) (by decide)
  rw [h2, h1]
  unfold w32 w16
  omega
theorem msk_nat : ∀ k : Nat, k < 32 → (BitVec.ofInt 32 ((2 : Int) ^ k - 1)).toNat = 2 ^ k - 1 := by decide +kernel
theorem jand_m {a : Int} {k : Nat} (hk : k < 32) : jand a ((2 : Int) ^ k - 1) = a % 2 ^ k := by
  unfold jand
  rw [← Int32.toInt_toBitVec, Int32.toBitVec_and, Int32.toBitVec_ofInt, Int32.toBitVec_ofInt]
  have h : (BitVec.ofInt 32 a &&& BitVec.ofInt 32 ((2 : Int) ^ k - 1)).toNat = (a % 4294967296).toNat % 2 ^ k := by
    rw [BitVec.toNat_and, msk_nat k hk, BitVec.toNat_ofInt, Nat.and_two_pow_sub_one_eq_mod]
    rfl
  have h2 : (2 : Nat) ^ k ≤ 2 ^ 31 := Nat.pow_le_pow_right (by decide) (by omega)
  have h3 : (a % 4294967296).toNat % 2 ^ k < 2 ^ k := Nat.mod_lt _ (Nat.pow_pos (by decide))
  rw [BitVec.toInt_eq_toNat_of_lt (by rw [h]; omega), h]
  have h5 : (((a % 4294967296).toNat % 2 ^ k : Nat) : Int) = (a % 4294967296) % 2 ^ k := by
    rw [Int.natCast_emod, Int.toNat_of_nonneg (by omega)]
    simp
  rw [h5]
  have h6 : ((2 : Int) ^ k) ∣ 4294967296 := by
    have e : (4294967296 : Int) = 2 ^ k * 2 ^ (32 - k) := by
      rw [← Int.pow_add, show k + (32 - k) = 32 by omega]
      rfl
    exact ⟨_, e⟩
  exact Int.emod_emod_of_dvd a h6
theorem ush_amt : ∀ n : Nat, n < 32 → ((Int32.ofInt n).toUInt32 &&& Int32.toUInt32 31).toNat % 32 = n := by decide +kernel
theorem jushr_n {a : Int} {n : Nat} (h0 : 0 < n) (hn : n < 32) : jushr a n = (a % 4294967296) / 2 ^ n := by
  unfold jushr
  have h1 : ((Int32.ofInt a).toUInt32 >>> ((Int32.ofInt n).toUInt32 &&& Int32.toUInt32 31)).toNat = (a % 4294967296).toNat / 2 ^ n := by
    rw [UInt32.toNat_shiftRight, ush_amt n hn, Nat.shiftRight_eq_div_pow]
    have h2 : (Int32.ofInt a).toUInt32.toNat = (a % 4294967296).toNat := by
      show (BitVec.ofInt 32 a).toNat = _
      rw [BitVec.toNat_ofInt]
      rfl
    rw [h2]
  generalize (Int32.ofInt a).toUInt32 >>> ((Int32.ofInt n).toUInt32 &&& Int32.toUInt32 31) = u at h1
  have h3 : (2 : Nat) ^ 1 ≤ 2 ^ n := Nat.pow_le_pow_right (by decide) h0
  have h4 : (a % 4294967296).toNat / 2 ^ n ≤ (a % 4294967296).toNat / 2 := Nat.div_le_div_left (by omega) (by decide)
  have h5 : u.toInt32.toInt = u.toBitVec.toInt := by rw [← Int32.toInt_toBitVec, UInt32.toBitVec_toInt32]
  have h6 : u.toBitVec.toNat = u.toNat := rfl
  rw [h5, BitVec.toInt_eq_toNat_of_lt (by omega), h6, h1, Int.natCast_ediv, Int.toNat_of_nonneg (by omega)]
  simp
theorem ush_16 (a : Int) : jand (jushr a 16) 32767 = a / 65536 % 32768 := by
  have h : jushr a 16 = (a % 4294967296) / 2 ^ 16 := jushr_n (n := 16) (by decide) (by decide)
  have h2 : jand (jushr a 16) 32767 = jushr a 16 % 32768 := jand_m (k := 15) (by decide)
  rw [h2, h]
  omega
theorem sh_16 {a : Int} (h : inR a) : jand (jshr a 16) 32767 = a / 65536 % 32768 := by
  have h1 : jshr a 16 = a / 2 ^ 16 := jshr_n (n := 16) h (by decide)
  have h2 : jand (jshr a 16) 32767 = jshr a 16 % 32768 := jand_m (k := 15) (by decide)
  rw [h2, h1]
  omega
theorem jand_1 (a : Int) : jand a 1 = a % 2 := jand_m (k := 1) (by decide)
theorem jand_3 (a : Int) : jand a 3 = a % 4 := jand_m (k := 2) (by decide)
theorem jand_63 (a : Int) : jand a 63 = a % 64 := jand_m (k := 6) (by decide)
theorem jand_15 (a : Int) : jand a 32767 = a % 32768 := jand_m (k := 15) (by decide)
