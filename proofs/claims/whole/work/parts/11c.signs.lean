/-! the signs of feed: both sides cut the same byte out of a long -/
theorem mp_byte (v : Int64) : Int64.toInt32 v &&& 255 = Int64.toInt32 (v &&& 255) := by
  rw [Int64.toInt32_and]
  rfl
/-- what a char row keeps of a small int is the int -/
theorem mp_char {y : Int32} (h0 : 0 ≤ y) (h1 : y ≤ 126) : (Int32.toUInt32 ((Int32.toUInt32 y % 65536).toInt32)).toUInt16.toUInt32.toInt32 = y := by
  have e1 : (0 : Int) ≤ y.toInt := Int32.le_iff_toInt_le.mp h0
  have e2 : y.toInt ≤ 126 := Int32.le_iff_toInt_le.mp h1
  have e3 : y.toUInt32.toNat < 65536 := by
    have h6 : y.toInt = if 2 * y.toUInt32.toNat < 2 ^ 32 then (y.toUInt32.toNat : Int) else (y.toUInt32.toNat : Int) - ((2 ^ 32 : Nat) : Int) := BitVec.toInt_eq_toNat_cond _
    have h8 : y.toUInt32.toNat < 4294967296 := y.toUInt32.toNat_lt
    by_cases h9 : 2 * y.toUInt32.toNat < 2 ^ 32
    · rw [if_pos h9] at h6; omega
    · rw [if_neg h9] at h6; omega
  have e4 : y.toUInt32 % 65536 = y.toUInt32 := by
    apply UInt32.toNat_inj.mp
    rw [UInt32.toNat_mod]
    exact Nat.mod_eq_of_lt e3
  have e5 : y.toUInt32.toUInt16.toUInt32 = y.toUInt32 := by
    apply UInt32.toNat_inj.mp
    rw [UInt16.toNat_toUInt32, UInt32.toNat_toUInt16]
    exact Nat.mod_eq_of_lt e3
  rw [e4]
  show (Int32.toUInt32 y).toUInt16.toUInt32.toInt32 = y
  rw [e5]
  rfl
