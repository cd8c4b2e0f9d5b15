/-! numbers: the machine's words and Int -/
def inR (z : Int) : Prop := -2147483648 ≤ z ∧ z < 2147483648
def inL (z : Int) : Prop := -9223372036854775808 ≤ z ∧ z < 9223372036854775808
theorem w32_bm (z : Int) : z.bmod 4294967296 = w32 z := by rw [Int.bmod_def]; unfold w32; split <;> omega
theorem w64_bm (z : Int) : z.bmod 18446744073709551616 = w64 z := by rw [Int.bmod_def]; unfold w64; split <;> omega
theorem w8_bm (z : Int) : z.bmod 256 = w8 z := by rw [Int.bmod_def]; unfold w8; split <;> omega
theorem w16_bm (z : Int) : z.bmod 65536 = w16 z := by rw [Int.bmod_def]; unfold w16; split <;> omega
theorem w32_in (z : Int) : inR (w32 z) := by unfold inR w32; omega
theorem w64_in (z : Int) : inL (w64 z) := by unfold inL w64; omega
theorem w8_in (z : Int) : inR (w8 z) := by unfold inR w8; omega
theorem w16_in (z : Int) : inR (w16 z) := by unfold inR w16; omega
theorem w32_id {z : Int} (h : inR z) : w32 z = z := by unfold inR at h; unfold w32; omega
theorem w64_id {z : Int} (h : inL z) : w64 z = z := by unfold inL at h; unfold w64; omega
theorem i_ti (x : Int32) : inR x.toInt := ⟨by have := x.le_toInt; omega, by have := x.toInt_lt; omega⟩
theorem i_tl (x : Int64) : inL x.toInt := ⟨by have := x.le_toInt; omega, by have := x.toInt_lt; omega⟩
theorem i_to {z : Int} (h : inR z) : (Int32.ofInt z).toInt = z := Int32.toInt_ofInt_of_le (by have := h.1; omega) (by have := h.2; omega)
theorem l_to {z : Int} (h : inL z) : (Int64.ofInt z).toInt = z := Int64.toInt_ofInt_of_le (by have := h.1; omega) (by have := h.2; omega)
theorem i_tw (z : Int) : (Int32.ofInt z).toInt = w32 z := by rw [Int32.toInt_ofInt]; exact w32_bm z
theorem l_tw (z : Int) : (Int64.ofInt z).toInt = w64 z := by rw [Int64.toInt_ofInt]; exact w64_bm z
theorem i_ow (z : Int) : Int32.ofInt (w32 z) = Int32.ofInt z := by rw [← Int32.toInt_inj, i_to (w32_in z), i_tw]
theorem l_ow (z : Int) : Int64.ofInt (w64 z) = Int64.ofInt z := by rw [← Int64.toInt_inj, l_to (w64_in z), l_tw]
theorem i_add (a b : Int) : Int32.ofInt a + Int32.ofInt b = Int32.ofInt (w32 (a + b)) := by rw [i_ow]; exact (Int32.ofInt_add a b).symm
theorem i_sub (a b : Int) : Int32.ofInt a - Int32.ofInt b = Int32.ofInt (w32 (a - b)) := by rw [i_ow]; exact (Int32.ofInt_sub a b).symm
theorem i_mul (a b : Int) : Int32.ofInt a * Int32.ofInt b = Int32.ofInt (w32 (a * b)) := by rw [i_ow]; exact (Int32.ofInt_mul a b).symm
theorem i_neg (a : Int) : -Int32.ofInt a = Int32.ofInt (w32 (-a)) := by rw [i_ow]; exact (Int32.ofInt_neg a).symm
theorem l_add (a b : Int) : Int64.ofInt a + Int64.ofInt b = Int64.ofInt (w64 (a + b)) := by rw [l_ow]; exact (Int64.ofInt_add a b).symm
theorem l_mul (a b : Int) : Int64.ofInt a * Int64.ofInt b = Int64.ofInt (w64 (a * b)) := by rw [l_ow]; exact (Int64.ofInt_mul a b).symm
theorem i_div {a b : Int} (ha : inR a) (hb : inR b) : Int32.ofInt a / Int32.ofInt b = Int32.ofInt (jdiv a b) := by
  rw [← Int32.toInt_inj, Int32.toInt_div, i_to ha, i_to hb]
  unfold jdiv
  rw [i_to (w32_in _), ← w32_bm]
theorem l_div {a b : Int} (ha : inL a) (hb : inL b) : Int64.ofInt a / Int64.ofInt b = Int64.ofInt (jldiv a b) := by
  rw [← Int64.toInt_inj, Int64.toInt_div, l_to ha, l_to hb]
  unfold jldiv
  rw [l_to (w64_in _), ← w64_bm]
theorem tm_in {a b M : Int} (ha : -M ≤ a ∧ a < M) : -M ≤ a.tmod b ∧ a.tmod b < M := by
  have h0 : (a.tmod b).natAbs ≤ a.natAbs := by rw [Int.natAbs_tmod]; exact Nat.mod_le _ _
  rcases Int.lt_or_le a 0 with h | h
  · have h1 : a.tmod b = -((-a).tmod b) := by rw [Int.neg_tmod, Int.neg_neg]
    have h2 : 0 ≤ (-a).tmod b := Int.tmod_nonneg b (by omega)
    omega
  · have h2 : 0 ≤ a.tmod b := Int.tmod_nonneg b h
    omega
theorem i_rem {a b : Int} (ha : inR a) (hb : inR b) : Int32.ofInt a - Int32.ofInt a / Int32.ofInt b * Int32.ofInt b = Int32.ofInt (jrem a b) := by
  rw [i_div ha hb]
  unfold jdiv jrem
  rw [i_ow, ← Int32.ofInt_mul, ← Int32.ofInt_sub]
  congr 1
  have := Int.tmod_add_mul_tdiv a b
  rw [Int.mul_comm (a.tdiv b) b]
  omega
theorem l_rem {a b : Int} (ha : inL a) (hb : inL b) : Int64.ofInt a - Int64.ofInt a / Int64.ofInt b * Int64.ofInt b = Int64.ofInt (jlrem a b) := by
  rw [l_div ha hb]
  unfold jldiv jlrem
  rw [l_ow, ← Int64.ofInt_mul, ← Int64.ofInt_sub]
  congr 1
  have := Int.tmod_add_mul_tdiv a b
  rw [Int.mul_comm (a.tdiv b) b]
  omega
theorem jrem_in {a b : Int} (ha : inR a) : inR (jrem a b) := tm_in ha
theorem jlrem_in {a b : Int} (ha : inL a) : inL (jlrem a b) := tm_in ha
theorem i_lt {a b : Int} (ha : inR a) (hb : inR b) : Int32.ofInt a < Int32.ofInt b ↔ a < b := by rw [Int32.lt_iff_toInt_lt, i_to ha, i_to hb]
theorem i_le {a b : Int} (ha : inR a) (hb : inR b) : Int32.ofInt a ≤ Int32.ofInt b ↔ a ≤ b := by rw [Int32.le_iff_toInt_le, i_to ha, i_to hb]
theorem i_eq {a b : Int} (ha : inR a) (hb : inR b) : Int32.ofInt a = Int32.ofInt b ↔ a = b := by rw [← Int32.toInt_inj, i_to ha, i_to hb]
theorem l_lt {a b : Int} (ha : inL a) (hb : inL b) : Int64.ofInt a < Int64.ofInt b ↔ a < b := by rw [Int64.lt_iff_toInt_lt, l_to ha, l_to hb]
theorem l_le {a b : Int} (ha : inL a) (hb : inL b) : Int64.ofInt a ≤ Int64.ofInt b ↔ a ≤ b := by rw [Int64.le_iff_toInt_le, l_to ha, l_to hb]
theorem l_eq {a b : Int} (ha : inL a) (hb : inL b) : Int64.ofInt a = Int64.ofInt b ↔ a = b := by rw [← Int64.toInt_inj, l_to ha, l_to hb]
theorem i_0 : Int32.ofInt 0 = 0 := rfl
theorem inR_0 : inR 0 := by unfold inR; omega
theorem inL_0 : inL 0 := by unfold inL; omega
theorem i_clamp {z : Int} (h : inR z) : (Int32.ofInt z).toNatClampNeg = z.toNat := Int32.toNatClampNeg_ofInt_of_le (by have := h.1; omega) (by have := h.2; omega)
theorem i_in {z : Int} {n : Nat} (h : inR z) (h0 : 0 ≤ z) (h1 : z < (n : Int)) : vp_in (Int32.ofInt z) n := by
  rw [vp_in_iff, i_to h]; exact ⟨h0, h1⟩
theorem jand_in (a b : Int) : inR (jand a b) := i_ti _
theorem jor_in (a b : Int) : inR (jor a b) := i_ti _
theorem jshl_in (a b : Int) : inR (jshl a b) := i_ti _
theorem jshr_in (a b : Int) : inR (jshr a b) := i_ti _
theorem jushr_in (a b : Int) : inR (jushr a b) := i_ti _
theorem jdiv_in (a b : Int) : inR (jdiv a b) := w32_in _
theorem jldiv_in (a b : Int) : inL (jldiv a b) := w64_in _
theorem jlcmp_in (a b : Int) : inR (jlcmp a b) := by unfold jlcmp inR; split <;> (try split) <;> omega
theorem i_and (a b : Int) : Int32.ofInt a &&& Int32.ofInt b = Int32.ofInt (jand a b) := by unfold jand; rw [Int32.ofInt_toInt]
theorem i_or (a b : Int) : Int32.ofInt a ||| Int32.ofInt b = Int32.ofInt (jor a b) := by unfold jor; rw [Int32.ofInt_toInt]
theorem i_shl (a b : Int) : Int32.ofInt a <<< (Int32.ofInt b &&& 31) = Int32.ofInt (jshl a b) := by unfold jshl; rw [Int32.ofInt_toInt]
theorem i_shr (a b : Int) : Int32.ofInt a >>> (Int32.ofInt b &&& 31) = Int32.ofInt (jshr a b) := by unfold jshr; rw [Int32.ofInt_toInt]
theorem i_ushr (a b : Int) : ((Int32.ofInt a).toUInt32 >>> ((Int32.ofInt b).toUInt32 &&& Int32.toUInt32 31)).toInt32 = Int32.ofInt (jushr a b) := by unfold jushr; rw [Int32.ofInt_toInt]
theorem i_i2l {a : Int} (h : inR a) : (Int32.ofInt a).toInt64 = Int64.ofInt a := by
  rw [← Int64.toInt_inj, Int32.toInt_toInt64, i_to h, l_to ⟨by have := h.1; omega, by have := h.2; omega⟩]
theorem inR_L {a : Int} (h : inR a) : inL a := ⟨by have := h.1; omega, by have := h.2; omega⟩
theorem i_i2b {a : Int} (h : inR a) : (Int32.ofInt a).toInt8.toInt32 = Int32.ofInt (w8 a) := by
  rw [← Int32.toInt_inj, Int8.toInt_toInt32, Int32.toInt_toInt8, i_to h, i_to (w8_in a)]
  exact w8_bm a
theorem i_i2s {a : Int} (h : inR a) : (Int32.ofInt a).toInt16.toInt32 = Int32.ofInt (w16 a) := by
  rw [← Int32.toInt_inj, Int16.toInt_toInt32, Int32.toInt_toInt16, i_to h, i_to (w16_in a)]
  exact w16_bm a
