/-! THE MACHINE'S NUMBERS as whole numbers. -/
theorem zn_w32 (x : Int) : x.bmod (2 ^ 32) = w32 x := by
  unfold w32 Int.bmod
  simp only [show ((2 ^ 32 : Nat) : Int) = 4294967296 from rfl]
  split <;> omega
theorem zn_w64 (x : Int) : x.bmod (2 ^ 64) = w64 x := by
  unfold w64 Int.bmod
  simp only [show ((2 ^ 64 : Nat) : Int) = 18446744073709551616 from rfl]
  split <;> omega
theorem zn_w8 (x : Int) : x.bmod (2 ^ 8) = w8 x := by
  unfold w8 Int.bmod
  simp only [show ((2 ^ 8 : Nat) : Int) = 256 from rfl]
  split <;> omega
theorem zn_w16 (x : Int) : x.bmod (2 ^ 16) = w16 x := by
  unfold w16 Int.bmod
  simp only [show ((2 ^ 16 : Nat) : Int) = 65536 from rfl]
  split <;> omega
theorem zn_in (x : Int32) : -2147483648 ≤ x.toInt ∧ x.toInt < 2147483648 := ⟨by have := Int32.le_toInt x; simpa using this, by have := Int32.toInt_lt x; simpa using this⟩
theorem zn_inL (x : Int64) : -9223372036854775808 ≤ x.toInt ∧ x.toInt < 9223372036854775808 := ⟨by have := Int64.le_toInt x; simpa using this, by have := Int64.toInt_lt x; simpa using this⟩
theorem zn_add (x y : Int32) : (x + y).toInt = w32 (x.toInt + y.toInt) := by rw [Int32.toInt_add, zn_w32]
theorem zn_sub (x y : Int32) : (x - y).toInt = w32 (x.toInt - y.toInt) := by rw [Int32.toInt_sub, zn_w32]
theorem zn_mul (x y : Int32) : (x * y).toInt = w32 (x.toInt * y.toInt) := by rw [Int32.toInt_mul, zn_w32]
theorem zn_div (x y : Int32) : (x / y).toInt = w32 (x.toInt.tdiv y.toInt) := by rw [Int32.toInt_div, zn_w32]
theorem zn_ofInt (n : Int) : (Int32.ofInt n).toInt = w32 n := by rw [Int32.toInt_ofInt, zn_w32]
theorem zn_ofIntIn {n : Int} (h : -2147483648 ≤ n) (h2 : n < 2147483648) : (Int32.ofInt n).toInt = n := by rw [zn_ofInt]; unfold w32; omega
theorem zn_w32id {n : Int} (h : -2147483648 ≤ n) (h2 : n < 2147483648) : w32 n = n := by unfold w32; omega
theorem zn_w64id {n : Int} (h : -9223372036854775808 ≤ n) (h2 : n < 9223372036854775808) : w64 n = n := by unfold w64; omega
theorem zn_eq0 (y : Int32) : y = 0 ↔ y.toInt = 0 := by rw [← Int32.toInt_inj]; rfl
theorem zn_rem (x y : Int32) (hy : ¬ y.toInt = 0) : (x - x / y * y).toInt = x.toInt.tmod y.toInt := by
  have h : (x - x / y * y).toInt = w32 (x.toInt - x.toInt.tdiv y.toInt * y.toInt) := by
    rw [zn_sub, zn_mul, zn_div]
    unfold w32
    generalize x.toInt.tdiv y.toInt = q
    generalize hz : y.toInt = z
    have e1 : (q + 2147483648) % 4294967296 - 2147483648 = q - 4294967296 * ((q + 2147483648) / 4294967296) := by omega
    rw [e1, Int.sub_mul]
    generalize ((q + 2147483648) / 4294967296) = t
    have e2 : 4294967296 * t * z = 4294967296 * (t * z) := by rw [Int.mul_assoc]
    rw [e2]
    generalize t * z = v
    generalize q * z = w
    omega
  rw [h]
  have h2 : x.toInt - x.toInt.tdiv y.toInt * y.toInt = x.toInt.tmod y.toInt := by
    have := Int.tmod_add_tdiv_mul x.toInt y.toInt
    have e : x.toInt.tdiv y.toInt * y.toInt = y.toInt * x.toInt.tdiv y.toInt := Int.mul_comm _ _
    first | omega | (rw [Int.mul_comm] at this; omega)
  rw [h2]
  have hb : x.toInt.tmod y.toInt = (x % y).toInt := (Int32.toInt_mod x y).symm
  rw [hb]
  have := zn_in (x % y)
  exact zn_w32id this.1 this.2
theorem zn_and (x y : Int32) : (x &&& y).toInt = zand x.toInt y.toInt := by unfold zand; rw [Int32.ofInt_toInt, Int32.ofInt_toInt]
theorem zn_or (x y : Int32) : (x ||| y).toInt = zor x.toInt y.toInt := by unfold zor; rw [Int32.ofInt_toInt, Int32.ofInt_toInt]
theorem zn_bv (x : Int32) : x.toInt = ((x.toBitVec.toNat : Int) + 2147483648) % 4294967296 - 2147483648 := by
  have h : x.toInt = x.toBitVec.toInt := rfl
  rw [h, BitVec.toInt_eq_toNat_bmod, zn_w32]
  rfl
theorem zn_amt (y : Int32) : y &&& 31 = nI (y.toInt % 32).toNat := by
  rw [pk_and y (m := 31) 5 (by decide)]
  congr 1
  rw [zn_bv y]
  have := y.toBitVec.isLt
  omega
theorem zn_amtk (y : Int32) : ((y &&& 31).toBitVec.smod 32).toNat = (y.toInt % 32).toNat := by
  rw [zn_amt y]
  have h : (y.toInt % 32).toNat < 32 := by omega
  generalize (y.toInt % 32).toNat = n at h
  revert n
  decide +kernel
theorem zn_shl (x y : Int32) : (x <<< (y &&& 31)).toInt = zshl x.toInt y.toInt := by
  unfold zshl
  rw [zn_bv, pk_shl x (y &&& 31) _ (zn_amtk y), zn_bv x]
  generalize x.toBitVec.toNat = a
  generalize (y.toInt % 32).toNat = k
  unfold w32
  have e : ((a * 2 ^ k % 2 ^ 32 : Nat) : Int) = ((a : Int) * 2 ^ k) % 4294967296 := by
    rw [Int.natCast_emod, Int.natCast_mul, Int.natCast_pow]
    rfl
  rw [e, Int.sub_mul]
  have e1 : ((a : Int) + 2147483648) % 4294967296 = (a : Int) + 2147483648 - 4294967296 * (((a : Int) + 2147483648) / 4294967296) := by omega
  rw [e1, Int.sub_mul, Int.add_mul]
  generalize (((a : Int) + 2147483648) / 4294967296) = t
  have e2 : 4294967296 * t * 2 ^ k = 4294967296 * (t * 2 ^ k) := by rw [Int.mul_assoc]
  rw [e2]
  generalize t * 2 ^ k = v
  generalize (a : Int) * 2 ^ k = w
  generalize (2147483648 : Int) * 2 ^ k = u
  omega
theorem zn_shr (x y : Int32) : (x >>> (y &&& 31)).toInt = zshr x.toInt y.toInt := by
  unfold zshr
  rw [pk_shr x (y &&& 31) _ (zn_amtk y), Int.shiftRight_eq_div_pow]
  simp
theorem zn_uamt (y : Int32) : ((y.toUInt32 &&& Int32.toUInt32 31).toBitVec % 32).toNat = (y.toInt % 32).toNat := by
  have h1 : (y.toUInt32 &&& Int32.toUInt32 31) = (y &&& 31).toUInt32 := rfl
  rw [h1, zn_amt y]
  have h : (y.toInt % 32).toNat < 32 := by omega
  generalize (y.toInt % 32).toNat = n at h
  revert n
  decide +kernel
theorem zn_ushr (x y : Int32) : (x.toUInt32 >>> (y.toUInt32 &&& Int32.toUInt32 31)).toInt32.toInt = zushr x.toInt y.toInt := by
  unfold zushr
  rw [zn_bv, pk_ushr x y _ (zn_uamt y)]
  have e : x.toInt % 4294967296 = (x.toBitVec.toNat : Int) := by
    rw [zn_bv x]
    have := x.toBitVec.isLt
    omega
  rw [e]
  unfold w32
  rw [Int.natCast_ediv, Int.natCast_pow]
  rfl
theorem zn_i2b (x : Int32) : x.toInt8.toInt32.toInt = w8 x.toInt := by
  rw [Int8.toInt_toInt32, Int32.toInt_toInt8, zn_w8]
theorem zn_i2s (x : Int32) : x.toInt16.toInt32.toInt = w16 x.toInt := by
  rw [Int16.toInt_toInt32, Int32.toInt_toInt16, zn_w16]
theorem zn_i2l (x : Int32) : x.toInt64.toInt = x.toInt := Int32.toInt_toInt64 x
theorem zn_l2i (x : Int64) : x.toInt32.toInt = w32 x.toInt := by rw [Int64.toInt_toInt32, zn_w32]
theorem zn_ladd (x y : Int64) : (x + y).toInt = w64 (x.toInt + y.toInt) := by rw [Int64.toInt_add, zn_w64]
theorem zn_lsub (x y : Int64) : (x - y).toInt = w64 (x.toInt - y.toInt) := by rw [Int64.toInt_sub, zn_w64]
theorem zn_lmul (x y : Int64) : (x * y).toInt = w64 (x.toInt * y.toInt) := by rw [Int64.toInt_mul, zn_w64]
theorem zn_lcmp (x y : Int64) : (lg_cmp x y).toInt = zcmp x.toInt y.toInt := by
  unfold lg_cmp zcmp
  by_cases h1 : x.toInt < y.toInt
  · rw [if_neg (by rw [gt_iff_lt, Int64.lt_iff_toInt_lt]; omega), if_neg (by rw [← Int64.toInt_inj]; omega), if_pos h1]
    rfl
  · by_cases h2 : x.toInt = y.toInt
    · rw [if_neg (by rw [gt_iff_lt, Int64.lt_iff_toInt_lt]; omega), if_pos (by rw [← Int64.toInt_inj]; exact h2), if_neg h1, if_pos h2]
      rfl
    · rw [if_pos (by rw [gt_iff_lt, Int64.lt_iff_toInt_lt]; omega), if_neg h1, if_neg h2]
      rfl
theorem zn_lt (x y : Int32) : x < y ↔ x.toInt < y.toInt := Int32.lt_iff_toInt_lt
theorem zn_eq (x y : Int32) : x = y ↔ x.toInt = y.toInt := Int32.toInt_inj.symm
theorem zn_lt0 (x : Int32) : x < 0 ↔ x.toInt < 0 := by rw [zn_lt]; rfl
theorem zn_0lt (x : Int32) : 0 < x ↔ 0 < x.toInt := by rw [zn_lt]; rfl
theorem zn_clamp {x : Int32} (h : 0 ≤ x.toInt) : x.toNatClampNeg = x.toInt.toNat := rfl
theorem zn_vpin {x : Int32} {n : Nat} (h : 0 ≤ x.toInt) (h2 : x.toInt < n) : vp_in x n := vp_in_iff.mpr ⟨h, h2⟩
theorem zn_bool {x : Int32} (h : x.toInt = 0 ∨ x.toInt = 1) : narrow .boolean (.int x) = .int x ∧ fits .boolean (.int x) = true := by
  rcases h with h | h
  · have : x = 0 := (zn_eq x 0).mpr (by rw [h]; rfl)
    subst this
    decide +kernel
  · have : x = 1 := (zn_eq x 1).mpr (by rw [h]; rfl)
    subst this
    decide +kernel
