/-! feed, the class's side: one long -/
def mp_sh (i : Nat) : Int32 := ([56, 48, 40, 32, 24, 16, 8, 0, -8] : List Int32).getD i 0
def mp_by (x : Int64) (s : Int32) : Int32 := (Int64.toInt32 ((Int64.toUInt64 x >>> ((Int32.toInt64 s).toUInt64 &&& Int64.toUInt64 63)).toInt64)) &&& 255
def mp_addN (x : Int64) (h : mm_H) : Nat → mm_H
  | 0 => h
  | i + 1 => mp_addX (mp_by x (mp_sh i)) (mp_addN x h i)
def mp_len (h : mm_H) : Prop := ∃ n : Nat, n ≤ 1000 ∧ h.1 33 1 = Int32.ofNat n
theorem mp_len_nn {h : mm_H} (q : mp_len h) : 0 ≤ h.1 33 1 := by
  obtain ⟨n, h1, h2⟩ := q
  rw [h2, Int32.le_iff_toInt_le, mp_ofNat_toInt (by omega)]
  show (0 : Int) ≤ (n : Int)
  omega
theorem mp_len_add {h : mm_H} (q : mp_len h) (y : Int32) : mp_len (mp_addX y h) := by
  obtain ⟨n, h1, h2⟩ := q
  unfold mp_addX
  by_cases hc : mp_sg y = true ∧ h.1 33 1 < 1000
  · rw [if_pos hc]
    have hn : n < 1000 := (mp_ofNat_lt (a := n) (b := 1000) (by omega) (by decide)).mp (by rw [← h2]; exact hc.2)
    refine ⟨n + 1, by omega, ?_⟩
    rw [mp_I1, h2, mp_ofNat_succ]
    simp
  · rw [if_neg hc]
    exact ⟨n, h1, h2⟩
noncomputable def mp_stepA (x1 : Int64) : Int32 × mm_H → Option ((Int32 × mm_H) ⊕ mm_H) := fun s1 => if s1.1 < 0 then (some (Sum.inr s1.2)) else (mm_let ((Int64.toInt32 ((Int64.toUInt64 x1 >>> ((Int32.toInt64 s1.1).toUInt64 &&& Int64.toUInt64 63)).toInt64)) &&& 255) fun y7 => (if y7 = 10 then (some 1) else (if y7 < 32 then (some 0) else (if 126 < y7 then (some 0) else (some 1))) : Option Int32).bind fun j9 => (if j9 = 0 then (some s1.2) else (if 1000 ≤ (s1.2.1 33 1) then (some s1.2) else ((mm_ix (s1.2.1 33 1) 1000).bind fun k22 => mm_let (mm_pI s1.2 34 k22 (Int32.toUInt32 ((Int32.toUInt32 y7 % 65536).toInt32)).toUInt16.toUInt32.toInt32) fun h24 => mm_let (mm_pI h24 33 1 ((h24.1 33 1) + 1)) fun h26 => some h26)) : Option mm_H).bind fun j20 => mm_let (s1.1 + (-8)) fun y34 => some (Sum.inl (y34, j20)))
theorem mp_sh_ok : ∀ i : Nat, i < 8 → (¬ mp_sh i < 0) ∧ mp_sh i + (-8) = mp_sh (i + 1) := by decide
theorem mp_add (x : Int64) (h : mm_H) (hl : mp_len h) : f_Ta_add x h = some (mp_addN x h 8) := by
  have hlN : ∀ i, mp_len (mp_addN x h i) := by
    intro i
    induction i with
    | zero => exact hl
    | succ i ih => exact mp_len_add ih _
  have W : mm_while (mp_stepA x) (56, h) = some (mp_addN x h 8) := by
    refine mm_while_for (step := mp_stepA x) (fun i => (mp_sh i, mp_addN x h i)) 8 (fun i hi => ?_) ?_
    · obtain ⟨c1, c2⟩ := mp_sh_ok i hi
      show mp_stepA x (mp_sh i, mp_addN x h i) = some (.inl (mp_sh (i + 1), mp_addN x h (i + 1)))
      unfold mp_stepA
      rw [if_neg c1]
      refine (mp_add_body (mp_by x (mp_sh i)) (mp_addN x h i) (mp_len_nn (hlN i)) (fun j20 => mm_let (mp_sh i + (-8)) fun y34 => some (Sum.inl (y34, j20)))).trans ?_
      unfold mm_let
      rw [c2]
      rfl
    · show mp_stepA x (mp_sh 8, mp_addN x h 8) = some (.inr (mp_addN x h 8))
      unfold mp_stepA
      rw [if_pos (show mp_sh 8 < 0 by decide)]
  show (mm_while (mp_stepA x) (56, h)).bind (fun v4 => some v4) = _
  rw [W]
  rfl
