/-! rests: whether a guest may choose, both sides -/
def mk_my (A : mk_A) (r : Nat → Nat) (p y : Nat) : Bool := decide (y = 0) || (mk_kb A r p).testBit (y - 1)
theorem mk_kb_bit {A : mk_A} {r : Nat → Nat} {p j : Nat} : (mk_kb A r p).testBit j = (decide (j < A 263 1) && (r j).testBit p) := by
  unfold mk_kb
  rw [mk_set_bit]
theorem mx_mayChoose {A : mk_A} {r : Nat → Nat} {p k y : Nat} {h : mm_H} (hT : mk_T A) (hk : k < 3) (hy : y ≤ 10) (h69 : h.1 69 k = Int32.ofNat (mk_kb A r p)) : f_Fe_mayChoose (Int32.ofNat k) (Int32.ofNat y) h = some (Int32.ofNat (mk_my A r p y).toNat) := by
  have kl := mk_s2 hT.1.2.1 (mk_kb_lt A r p)
  unfold f_Fe_mayChoose mk_my
  have Z : (Int32.ofNat y = 0) ↔ y = 0 := mn_eql (b := 0) (show y < 4294967296 by omega) (by decide)
  by_cases c : y = 0
  · rw [if_pos (Z.mpr c), decide_eq_true c, Bool.true_or]; rfl
  · rw [if_neg (fun z => c (Z.mp z)), decide_eq_false c, Bool.false_or, mk_bs (mn_ix (show k < 3 by omega) (by omega)), h69, mn_on1 c, mk_bs (mn_xbit (show mk_kb A r p < 2147483648 by omega) (show y - 1 < 31 by omega))]
    cases (mk_kb A r p).testBit (y - 1) <;> rfl
theorem mi_may {A : mk_A} {E : mk_E} {r : Nat → Nat} {p k y : Nat} {h : mm_H} (hT : mk_T A) (hW : mk_W A r) (hM : mk_MT A E h) (hR : mk_MR r h) (hk : k < 3) (hp : p < A 263 0) (hy : y ≤ 10) (h314 : h.1 314 k = Int32.ofNat p) : f_M_may (Int32.ofNat k) (Int32.ofNat y) h = some (Int32.ofNat (mk_my A r p y).toNat) := by
  have hP := hT.1.1
  have hS1 := hT.1.2.1
  unfold f_M_may mk_my
  have Z : (Int32.ofNat y = 0) ↔ y = 0 := mn_eql (b := 0) (show y < 4294967296 by omega) (by decide)
  by_cases c : y = 0
  · rw [if_pos (Z.mpr c), decide_eq_true c, Bool.true_or]; rfl
  · rw [if_neg (fun z => c (Z.mp z)), decide_eq_false c, Bool.false_or, mk_kb_bit, hM.1 1 (by omega)]
    by_cases l : A 263 1 < y
    · rw [if_pos ((mn_lt (by omega) (by omega)).mpr l), decide_eq_false (show ¬ y - 1 < A 263 1 by omega), Bool.false_and]; rfl
    · have rb := mk_p2 hP (hW.1 (y - 1) (by omega))
      rw [if_neg (fun z => l ((mn_lt (by omega) (by omega)).mp z)), decide_eq_true (show y - 1 < A 263 1 by omega), Bool.true_and, mn_on1 c, mk_bs (mn_ix (show y - 1 < 123 by omega) (by omega)), mk_bs (mn_ix (show k < 3 by omega) (by omega)), hR (y - 1) (by omega), h314, mn_bit (by omega) (by omega)]
      cases (r (y - 1)).testBit p <;> rfl
