/-! NUMBERS: Int32 as Nat, where both have a meaning; bits and sets -/
theorem mn_add (a b : Nat) : Int32.ofNat a + Int32.ofNat b = Int32.ofNat (a + b) := (Int32.ofNat_add a b).symm
theorem mn_ladd (a b : Nat) : (no_index (OfNat.ofNat a : Int32)) + Int32.ofNat b = Int32.ofNat (OfNat.ofNat a + b) := mn_add a b
theorem mn_addl (a b : Nat) : Int32.ofNat b + (no_index (OfNat.ofNat a : Int32)) = Int32.ofNat (b + OfNat.ofNat a) := mn_add b a
theorem mn_mul (a b : Nat) : Int32.ofNat a * Int32.ofNat b = Int32.ofNat (a * b) := (Int32.ofNat_mul a b).symm
theorem mn_lmul (a b : Nat) : (no_index (OfNat.ofNat a : Int32)) * Int32.ofNat b = Int32.ofNat (OfNat.ofNat a * b) := mn_mul a b
theorem mn_mull (a b : Nat) : Int32.ofNat b * (no_index (OfNat.ofNat a : Int32)) = Int32.ofNat (b * OfNat.ofNat a) := mn_mul b a
theorem mn_sub {a b : Nat} (h : b ≤ a) : Int32.ofNat a - Int32.ofNat b = Int32.ofNat (a - b) := (Int32.ofNat_sub a b h).symm
theorem mn_subl {a b : Nat} (h : OfNat.ofNat b ≤ a) : Int32.ofNat a - (no_index (OfNat.ofNat b : Int32)) = Int32.ofNat (a - OfNat.ofNat b) := mn_sub h
theorem mn_ix {k n : Nat} (h : k < n) (hn : n ≤ 2147483648) : mm_ix (Int32.ofNat k) n = some k := mp_ix h hn
theorem mn_le {a b : Nat} (ha : a < 2147483648) (hb : b < 2147483648) : (Int32.ofNat a ≤ Int32.ofNat b) ↔ a ≤ b := Int32.ofNat_le_iff_le ha hb
theorem mn_lel {a b : Nat} (ha : a < 2147483648) (hb : OfNat.ofNat b < 2147483648) : (Int32.ofNat a ≤ (no_index (OfNat.ofNat b : Int32))) ↔ a ≤ OfNat.ofNat b := mn_le ha hb
theorem mn_lle {a b : Nat} (ha : a < 2147483648) (hb : OfNat.ofNat b < 2147483648) : ((no_index (OfNat.ofNat b : Int32)) ≤ Int32.ofNat a) ↔ OfNat.ofNat b ≤ a := mn_le hb ha
theorem mn_lt {a b : Nat} (ha : a < 2147483648) (hb : b < 2147483648) : (Int32.ofNat a < Int32.ofNat b) ↔ a < b := Int32.ofNat_lt_iff_lt ha hb
theorem mn_ltl {a b : Nat} (ha : a < 2147483648) (hb : OfNat.ofNat b < 2147483648) : (Int32.ofNat a < (no_index (OfNat.ofNat b : Int32))) ↔ a < OfNat.ofNat b := mn_lt ha hb
theorem mn_llt {a b : Nat} (ha : a < 2147483648) (hb : OfNat.ofNat b < 2147483648) : ((no_index (OfNat.ofNat b : Int32)) < Int32.ofNat a) ↔ OfNat.ofNat b < a := mn_lt hb ha
theorem mn_eq {a b : Nat} (ha : a < 4294967296) (hb : b < 4294967296) : (Int32.ofNat a = Int32.ofNat b) ↔ a = b := by
  constructor
  · intro h
    have h2 : (Int32.ofNat a).toBitVec.toNat = (Int32.ofNat b).toBitVec.toNat := by rw [h]
    have ea : (Int32.ofNat a).toBitVec.toNat = a := Nat.mod_eq_of_lt ha
    have eb : (Int32.ofNat b).toBitVec.toNat = b := Nat.mod_eq_of_lt hb
    rw [ea, eb] at h2
    exact h2
  · intro h; rw [h]
theorem mn_eql {a b : Nat} (ha : a < 4294967296) (hb : OfNat.ofNat b < 4294967296) : (Int32.ofNat a = (no_index (OfNat.ofNat b : Int32))) ↔ a = OfNat.ofNat b := mn_eq ha hb
theorem mn_leq {a b : Nat} (ha : a < 4294967296) (hb : OfNat.ofNat b < 4294967296) : ((no_index (OfNat.ofNat b : Int32)) = Int32.ofNat a) ↔ OfNat.ofNat b = a := mn_eq hb ha
theorem mn_nn {a : Nat} (ha : a < 2147483648) : ¬ Int32.ofNat a = -1 := by
  intro h
  have h2 : (Int32.ofNat a).toInt = (-1 : Int32).toInt := by rw [h]
  rw [mp_ofNat_toInt (by omega)] at h2
  have : (-1 : Int32).toInt = -1 := by decide
  omega
theorem mn_or (a b : Nat) : Int32.ofNat a ||| Int32.ofNat b = Int32.ofNat (a ||| b) := Int32.toBitVec_inj.1 (BitVec.ofNat_or).symm
theorem mn_and (a b : Nat) : Int32.ofNat a &&& Int32.ofNat b = Int32.ofNat (a &&& b) := Int32.toBitVec_inj.1 (BitVec.ofNat_and).symm
/-- what is in a, but not in b -/
def mk_dif (a b : Nat) : Nat := a ^^^ (a &&& b)
theorem mk_dif_bit (a b i : Nat) : (mk_dif a b).testBit i = (a.testBit i && !b.testBit i) := by
  unfold mk_dif
  rw [Nat.testBit_xor, Nat.testBit_and]
  cases a.testBit i <;> cases b.testBit i <;> rfl
theorem mn_dif (a b : Nat) : Int32.ofNat a &&& (Int32.ofNat b ^^^ (-1)) = Int32.ofNat (mk_dif a b) := by
  apply Int32.toBitVec_inj.1
  show BitVec.ofNat 32 a &&& (BitVec.ofNat 32 b ^^^ BitVec.allOnes 32) = BitVec.ofNat 32 (mk_dif a b)
  apply BitVec.eq_of_getLsbD_eq
  intro i hi
  simp only [BitVec.getLsbD_and, BitVec.getLsbD_xor, BitVec.getLsbD_ofNat, BitVec.getLsbD_allOnes, mk_dif_bit]
  simp [hi]
theorem mn_shl {j : Nat} (hj : j < 32) : (1 : Int32) <<< (Int32.ofNat j &&& 31) = Int32.ofNat (2 ^ j) := (by decide +kernel : ∀ j : Nat, j < 32 → (1 : Int32) <<< (Int32.ofNat j &&& 31) = Int32.ofNat (2 ^ j)) j hj
theorem mn_t1 (i : Nat) : Nat.testBit 1 i = decide (i = 0) := by
  cases i with
  | zero => rfl
  | succ n => rw [Nat.testBit_succ]; simp
theorem mn_bit {s j : Nat} (hs : s < 2147483648) (hj : j < 31) : (Int32.ofNat s >>> (Int32.ofNat j &&& 31)) &&& 1 = Int32.ofNat (s.testBit j).toNat := by
  apply Int32.toBitVec_inj.1
  have e1 : (Int32.ofNat j &&& 31) = Int32.ofNat j := (by decide +kernel : ∀ j : Nat, j < 31 → (Int32.ofNat j &&& 31) = Int32.ofNat j) j hj
  have e2 : (BitVec.ofNat 32 j).smod 32 = BitVec.ofNat 32 j := (by decide +kernel : ∀ j : Nat, j < 31 → (BitVec.ofNat 32 j).smod 32 = BitVec.ofNat 32 j) j hj
  rw [e1]
  show (BitVec.ofNat 32 s).sshiftRight' ((BitVec.ofNat 32 j).smod 32) &&& 1#32 = BitVec.ofNat 32 (s.testBit j).toNat
  rw [e2]
  have e3 : (BitVec.ofNat 32 j).toNat = j := by
    rw [BitVec.toNat_ofNat]
    exact Nat.mod_eq_of_lt (by omega)
  apply BitVec.eq_of_getLsbD_eq
  intro i hi
  rw [BitVec.getLsbD_and, BitVec.sshiftRight', e3, BitVec.getLsbD_sshiftRight]
  by_cases h0 : i = 0
  · subst h0
    have hj2 : j + 0 < 32 := by omega
    have hj3 : j < 32 := by omega
    simp only [BitVec.getLsbD_ofNat, Nat.add_zero, hj3, if_true]
    cases hb : s.testBit j <;> simp [mn_t1]
  · have e4 : (1#32).getLsbD i = false := by
      rw [BitVec.getLsbD_ofNat]
      simp [mn_t1, h0]
    rw [e4, Bool.and_false, BitVec.getLsbD_ofNat]
    cases hb : s.testBit j <;> simp [mn_t1, h0]
theorem mn_xbit {s j : Nat} (hs : s < 2147483648) (hj : j < 31) : f_X_bit (Int32.ofNat s) (Int32.ofNat j) = some (Int32.ofNat (s.testBit j).toNat) := by
  rw [mp_bit, mn_bit hs hj]
theorem mn_div {a b : Nat} (ha : a < 2147483648) (hb : b < 2147483648) : Int32.ofNat a / Int32.ofNat b = Int32.ofNat (a / b) := (Int32.ofNat_div ha hb).symm
theorem mn_divl {a b : Nat} (ha : a < 2147483648) (hb : OfNat.ofNat b < 2147483648) : Int32.ofNat a / (no_index (OfNat.ofNat b : Int32)) = Int32.ofNat (a / OfNat.ofNat b) := mn_div ha hb
theorem mn_rem {a b : Nat} (ha : a < 2147483648) (hb : b < 2147483648) : Int32.ofNat a - Int32.ofNat a / Int32.ofNat b * Int32.ofNat b = Int32.ofNat (a % b) := by
  rw [mn_div ha hb, mn_mul, mn_sub (Nat.div_mul_le_self a b), Nat.mod_def, Nat.mul_comm]
theorem mn_reml {a b : Nat} (ha : a < 2147483648) (hb : OfNat.ofNat b < 2147483648) : Int32.ofNat a - Int32.ofNat a / (no_index (OfNat.ofNat b : Int32)) * (no_index (OfNat.ofNat b : Int32)) = Int32.ofNat (a % OfNat.ofNat b) := mn_rem ha hb
theorem mn_bi (b : Bool) : b.toNat < 2 := by cases b <;> decide
theorem mn_b1 (b : Bool) : Int32.ofNat b.toNat = 1 ↔ b = true := by cases b <;> decide
theorem mn_b0 (b : Bool) : Int32.ofNat b.toNat = 0 ↔ b = false := by cases b <;> decide
/-- how many places below n hold -/
def mk_cnt (f : Nat → Bool) : Nat → Nat
  | 0 => 0
  | n + 1 => mk_cnt f n + (f n).toNat
theorem mk_cnt_le (f : Nat → Bool) (n : Nat) : mk_cnt f n ≤ n := by
  induction n with
  | zero => exact Nat.le_refl _
  | succ n ih => have := mn_bi (f n); simp only [mk_cnt]; omega
theorem mk_cnt_congr {f g : Nat → Bool} {n : Nat} (h : ∀ i, i < n → f i = g i) : mk_cnt f n = mk_cnt g n := by
  induction n with
  | zero => rfl
  | succ n ih => simp only [mk_cnt]; rw [ih (fun i hi => h i (by omega)), h n (by omega)]
/-- the sum of f over the places below n -/
def mk_sum (f : Nat → Nat) : Nat → Nat
  | 0 => 0
  | n + 1 => mk_sum f n + f n
theorem mk_sum_congr {f g : Nat → Nat} {n : Nat} (h : ∀ i, i < n → f i = g i) : mk_sum f n = mk_sum g n := by
  induction n with
  | zero => rfl
  | succ n ih => simp only [mk_sum]; rw [ih (fun i hi => h i (by omega)), h n (by omega)]
theorem mk_sum_le {f : Nat → Nat} {n b : Nat} (h : ∀ i, i < n → f i ≤ b) : mk_sum f n ≤ n * b := by
  induction n with
  | zero => simp [mk_sum]
  | succ n ih =>
    simp only [mk_sum]
    have := ih (fun i hi => h i (by omega))
    have := h n (by omega)
    rw [Nat.succ_mul]
    omega
theorem mk_sum_more {f : Nat → Nat} {n m : Nat} (hm : n ≤ m) (h : ∀ i, n ≤ i → i < m → f i = 0) : mk_sum f m = mk_sum f n := by
  induction m with
  | zero => have : n = 0 := by omega
            subst this; rfl
  | succ m ih =>
    by_cases e : n = m + 1
    · subst e; rfl
    · simp only [mk_sum]
      rw [ih (by omega) (fun i h1 h2 => h i h1 (by omega)), h m (by omega) (by omega), Nat.add_zero]
/-- the bits below n of which f holds, as a number -/
def mk_set (f : Nat → Bool) : Nat → Nat
  | 0 => 0
  | n + 1 => mk_set f n ||| ((f n).toNat <<< n)
theorem mk_bsh (b : Bool) (n i : Nat) : (b.toNat <<< n).testBit i = (decide (i = n) && b) := by
  rw [Nat.testBit_shiftLeft]
  cases b
  · simp
  · by_cases h : i = n
    · subst h; simp
    · simp only [Bool.toNat_true, mn_t1, h, decide_false, Bool.false_and]
      by_cases h2 : n ≤ i
      · simp [h2]; omega
      · simp [h2]
theorem mk_set_bit (f : Nat → Bool) (n i : Nat) : (mk_set f n).testBit i = (decide (i < n) && f i) := by
  induction n with
  | zero => simp [mk_set]
  | succ n ih =>
    simp only [mk_set]
    rw [Nat.testBit_or, ih, mk_bsh]
    by_cases h : i = n
    · subst h; simp
    · by_cases h2 : i < n
      · simp [h, h2, show i < n + 1 by omega]
      · simp [h, h2, show ¬ i < n + 1 by omega]
theorem mk_set_lt (f : Nat → Bool) (n : Nat) : mk_set f n < 2 ^ n := by
  apply Nat.lt_pow_two_of_testBit
  intro i hi
  rw [mk_set_bit]
  simp [show ¬ i < n by omega]
/-- how many of the first ten -/
def mk_pc (s : Nat) : Nat := mk_cnt s.testBit 10
theorem mk_pc_le (s : Nat) : mk_pc s ≤ 10 := mk_cnt_le _ _
theorem mn_bc {s : Nat} (hs : s < 1024) : f_JI_bitCount (Int32.ofNat s) = some (Int32.ofNat (mk_pc s)) := (by decide +kernel : ∀ s : Nat, s < 1024 → f_JI_bitCount (Int32.ofNat s) = some (Int32.ofNat (mk_pc s))) s hs
theorem mk_bs {α β : Type} {o : Option α} {v : α} {k : α → Option β} (h : o = some v) : o.bind k = k v := by rw [h]; rfl
theorem mn_mbits {s : Nat} (hs : s < 2147483648) : f_M_bits (Int32.ofNat s) = some (Int32.ofNat (mk_pc s)) := by
  unfold f_M_bits
  refine (mk_bs (mm_while_for (g := fun i => (Int32.ofNat (mk_cnt s.testBit i), Int32.ofNat i)) 10 (r := Int32.ofNat (mk_pc s)) (fun i hi => ?_) ?_)).trans ?_
  · simp (disch := omega) only [mm_let, mn_lle, mn_bit, mn_add, mn_addl]
    rw [if_neg (by omega)]
    rfl
  · rfl
  · rfl
theorem mn_max {a b : Nat} (ha : a < 2147483648) (hb : b < 2147483648) : f_JM_max (Int32.ofNat a) (Int32.ofNat b) = some (Int32.ofNat (max a b)) := by
  rw [mp_max]
  simp (disch := omega) only [mn_lt]
  by_cases h : a < b
  · rw [if_pos h, Nat.max_eq_right (by omega)]
  · rw [if_neg h, Nat.max_eq_left (by omega)]
theorem mn_min {a b : Nat} (ha : a < 2147483648) (hb : b < 2147483648) : f_JM_min (Int32.ofNat a) (Int32.ofNat b) = some (Int32.ofNat (min a b)) := by
  rw [mp_min]
  simp (disch := omega) only [mn_lt]
  by_cases h : b < a
  · rw [if_pos h, Nat.min_eq_right (by omega)]
  · rw [if_neg h, Nat.min_eq_left (by omega)]
/-- an int that is no less than 0 and small is a Nat -/
theorem mn_of {x : Int32} (h : 0 ≤ x) : ∃ n : Nat, n < 2147483648 ∧ x = Int32.ofNat n := by
  refine ⟨x.toNatClampNeg, x.toNatClampNeg_lt, ?_⟩
  apply Int32.toInt_inj.mp
  have h1 : (0 : Int) ≤ x.toInt := Int32.le_iff_toInt_le.mp h
  rw [mp_ofNat_toInt x.toNatClampNeg_lt]
  show x.toInt = ((x.toInt.toNat : Nat) : Int)
  omega
