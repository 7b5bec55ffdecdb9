/-! draws -/
def mk_nxt (g : Nat) : Nat := (g * 1103515245 + 12345) % 2147483648
def mk_dr (g n : Nat) : Nat := mk_nxt g / 65536 % n
theorem mn_ladd64 (a b : Nat) : Int64.ofNat a + Int64.ofNat b = Int64.ofNat (a + b) := (Int64.ofNat_add a b).symm
theorem mn_mul64 (a b : Nat) : Int64.ofNat a * Int64.ofNat b = Int64.ofNat (a * b) := (Int64.ofNat_mul a b).symm
theorem mn_div64 {a b : Nat} (ha : a < 9223372036854775808) (hb : b < 9223372036854775808) : Int64.ofNat a / Int64.ofNat b = Int64.ofNat (a / b) := (Int64.ofNat_div ha hb).symm
theorem mn_sub64 {a b : Nat} (h : b ≤ a) : Int64.ofNat a - Int64.ofNat b = Int64.ofNat (a - b) := (Int64.ofNat_sub a b h).symm
theorem mn_msk (a : Nat) : Int64.ofNat a &&& 2147483647 = Int64.ofNat (a % 2147483648) := by
  have : a % 2147483648 = a &&& 2147483647 := (Nat.and_two_pow_sub_one_eq_mod a 31).symm
  rw [this]
  exact Int64.toBitVec_inj.1 (BitVec.ofNat_and).symm
theorem mn_rem64 {a b : Nat} (ha : a < 9223372036854775808) (hb : b < 9223372036854775808) : Int64.ofNat a - Int64.ofNat a / Int64.ofNat b * Int64.ofNat b = Int64.ofNat (a % b) := by
  rw [mn_div64 ha hb, mn_mul64, mn_sub64 (Nat.div_mul_le_self a b)]
  congr 1
  have := Nat.div_add_mod a b
  rw [Nat.mul_comm] at this
  omega
theorem mn_6432 (a : Nat) : (Int64.ofNat a).toInt32 = Int32.ofNat a := Int64.toInt32_ofNat' 
theorem mn_3264 {a : Nat} (ha : a < 2147483648) : (Int32.ofNat a).toInt64 = Int64.ofNat a := by
  refine Int64.toInt_inj.mp ?_
  rw [Int32.toInt_toInt64, Int32.toInt_ofNat_of_lt (by omega), Int64.toInt_ofNat_of_lt (by omega)]
theorem mk_nxt_lt (g : Nat) : mk_nxt g < 2147483648 := Nat.mod_lt _ (by omega)
theorem mx_draw {g n : Nat} {h : mm_H} (hg : g < 2147483648) (hn : 0 < n ∧ n < 100) (e : h.2.1 32 19 = Int64.ofNat g) : f_X_draw (Int32.ofNat n) h = some (Int32.ofNat (mk_dr g n), mm_pL h 32 19 (Int64.ofNat (mk_nxt g))) := by
  have hs := mk_nxt_lt g
  unfold f_X_draw
  have e1 : ((h.2.1 32 19 * 1103515245) + 12345) &&& 2147483647 = Int64.ofNat (mk_nxt g) := by
    rw [e]
    show (Int64.ofNat g * Int64.ofNat 1103515245 + Int64.ofNat 12345) &&& 2147483647 = _
    rw [mn_mul64, mn_ladd64, mn_msk]
    rfl
  rw [e1]
  show (if 0 < Int32.ofNat n then _ else _) = _
  rw [if_pos ((mn_llt (b := 0) (show n < 2147483648 by omega) (by decide)).mpr hn.1)]
  have nz : mm_nzI (Int32.ofNat n) = some () := by
    unfold mm_nzI
    rw [if_neg (fun z => absurd ((mn_eql (b := 0) (show n < 4294967296 by omega) (by decide)).mp z) (show ¬ n = 0 by omega))]
  rw [mk_bs nz]
  have e2 : (mm_pL h 32 19 (Int64.ofNat (mk_nxt g))).2.1 32 19 = Int64.ofNat (mk_nxt g) := by rw [mp_L2, if_pos ⟨rfl, rfl⟩]
  have e3 : Int64.toInt32 ((mm_pL h 32 19 (Int64.ofNat (mk_nxt g))).2.1 32 19 / 65536) = Int32.ofNat (mk_nxt g / 65536) := by
    rw [e2]
    show Int64.toInt32 (Int64.ofNat (mk_nxt g) / Int64.ofNat 65536) = _
    rw [mn_div64 (by omega) (by omega), mn_6432]
  rw [e3, mn_rem (by omega) (by omega)]
  rfl
theorem mi_draws {g n : Nat} {h : mm_H} (hg : g < 2147483648) (hn : 0 < n ∧ n < 100) (e : h.2.1 261 69 = Int64.ofNat g) : f_M_draws (Int32.ofNat n) h = some (Int32.ofNat (mk_dr g n), mm_pL h 261 69 (Int64.ofNat (mk_nxt g))) := by
  have hs := mk_nxt_lt g
  unfold f_M_draws
  have e1 : (((h.2.1 261 69) * 1103515245) + 12345) - (((h.2.1 261 69) * 1103515245) + 12345) / 2147483648 * 2147483648 = Int64.ofNat (mk_nxt g) := by
    rw [e]
    have : (Int64.ofNat g * 1103515245) + 12345 = Int64.ofNat (g * 1103515245 + 12345) := by
      show (Int64.ofNat g * Int64.ofNat 1103515245 + Int64.ofNat 12345) = _
      rw [mn_mul64, mn_ladd64]
    rw [this]
    exact mn_rem64 (b := 2147483648) (by omega) (by omega)
  rw [e1]
  have nz : mm_nzL (Int32.toInt64 (Int32.ofNat n)) = some () := by
    unfold mm_nzL
    rw [mn_3264 (by omega), if_neg (fun z => by
      have h1 := congrArg Int64.toInt z
      rw [Int64.toInt_ofNat_of_lt (by omega)] at h1
      have h2 : (0 : Int64).toInt = 0 := by decide
      rw [h2] at h1
      omega)]
  show (mm_nzL (Int32.toInt64 (Int32.ofNat n))).bind _ = _
  rw [mk_bs nz]
  have e2 : (mm_pL h 261 69 (Int64.ofNat (mk_nxt g))).2.1 261 69 = Int64.ofNat (mk_nxt g) := by rw [mp_L2, if_pos ⟨rfl, rfl⟩]
  have e3 : ((mm_pL h 261 69 (Int64.ofNat (mk_nxt g))).2.1 261 69 / 65536) = Int64.ofNat (mk_nxt g / 65536) := by
    rw [e2]
    exact mn_div64 (b := 65536) (by omega) (by omega)
  rw [e3, mn_3264 (by omega), mn_rem64 (by omega) (by omega), mn_6432]
  rfl
