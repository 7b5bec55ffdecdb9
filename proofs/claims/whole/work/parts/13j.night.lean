/-! nights, the reference's side: one night, some nights -/
theorem mi_share {A : mk_A} {E : mk_E} {U T : Nat} {h : mm_H} (hT : mk_T A) (hM : mk_MT A E h) (hU : U < 2 ^ A 263 0) (hTT : T < 2 ^ A 263 0) (hq : ∀ q, q < A 263 0 → h.1 312 q = Int32.ofNat (mk_hr A U q)) : mm_while (σ := (Int64 × Int32)) (ρ := Int64) (fun s38 => if (h.1 263 0) ≤ s38.2 then (some (Sum.inr s38.1)) else ((if ((Int32.ofNat U >>> (s38.2 &&& 31)) &&& 1) = 0 then ((if ((Int32.ofNat T >>> (s38.2 &&& 31)) &&& 1) = 1 then ((mm_ix s38.2 6).bind fun k50 => some (h.1 312 k50)) else ((mm_ix s38.2 6).bind fun k48 => some (1000000 - (h.1 312 k48))) : Option Int32).bind fun j46 => mm_let ((s38.1 * (Int32.toInt64 j46)) / 1000000) fun y55 => some y55) else (some s38.1) : Option Int64).bind fun j44 => mm_let (s38.2 + 1) fun y61 => some (Sum.inl (j44, y61)))) (1000000, 0) = some (Int64.ofNat (mk_sh (mk_hr A U) U T (A 263 0))) := by
  have hP := hT.1.1
  have h64 := mk_pow6 hP
  have hh : ∀ i, mk_hr A U i ≤ 1000000 := fun i => Nat.sub_le _ _
  have e0 : h.1 263 0 = Int32.ofNat (A 263 0) := hM.1 0 (by omega)
  rw [e0]
  have L : mk_ok (mm_while (σ := (Int64 × Int32)) (ρ := Int64) (fun s38 => if Int32.ofNat (A 263 0) ≤ s38.2 then (some (Sum.inr s38.1)) else ((if ((Int32.ofNat U >>> (s38.2 &&& 31)) &&& 1) = 0 then ((if ((Int32.ofNat T >>> (s38.2 &&& 31)) &&& 1) = 1 then ((mm_ix s38.2 6).bind fun k50 => some (h.1 312 k50)) else ((mm_ix s38.2 6).bind fun k48 => some (1000000 - (h.1 312 k48))) : Option Int32).bind fun j46 => mm_let ((s38.1 * (Int32.toInt64 j46)) / 1000000) fun y55 => some y55) else (some s38.1) : Option Int64).bind fun j44 => mm_let (s38.2 + 1) fun y61 => some (Sum.inl (j44, y61)))) (1000000, 0)) (fun v => v = Int64.ofNat (mk_sh (mk_hr A U) U T (A 263 0))) := by
    refine mk_ok.for (ρ := Int64) (A 263 0) (fun i (y : Int64 × Int32) => y.2 = Int32.ofNat i ∧ y.1 = Int64.ofNat (mk_sh (mk_hr A U) U T i)) ⟨rfl, rfl⟩ (fun i y hi ⟨f1, f2⟩ => ?_) (fun y ⟨f1, f2⟩ => ?_)
    · have sl := mk_sh_le (U := U) (T := T) hh i
      have hi' := hh i
      have en : mk_sh (mk_hr A U) U T (i + 1) = if U.testBit i = true then mk_sh (mk_hr A U) U T i else mk_sh (mk_hr A U) U T i * (if T.testBit i = true then mk_hr A U i else 1000000 - mk_hr A U i) / 1000000 := rfl
      rw [f1, if_neg (fun z => absurd ((mn_le (by omega) (by omega)).mp z) (show ¬ A 263 0 ≤ i by omega)), mn_bit (by omega) (by omega), f2, en]
      refine mk_ok.bs (v := Int64.ofNat (if U.testBit i = true then mk_sh (mk_hr A U) U T i else mk_sh (mk_hr A U) U T i * (if T.testBit i = true then mk_hr A U i else 1000000 - mk_hr A U i) / 1000000)) ?_ ?_
      · cases c : U.testBit i
        · rw [if_pos (by decide), mn_bit (s := T) (j := i) (by omega) (by omega), if_neg (show ¬ false = true by decide)]
          have ej : ((if Int32.ofNat (T.testBit i).toNat = 1 then ((mm_ix (Int32.ofNat i) 6).bind fun k50 => some (h.1 312 k50)) else ((mm_ix (Int32.ofNat i) 6).bind fun k48 => some (1000000 - (h.1 312 k48)))) : Option Int32) = some (Int32.ofNat (if T.testBit i = true then mk_hr A U i else 1000000 - mk_hr A U i)) := by
            rw [mk_bs (mn_ix (show i < 6 by omega) (by omega)), mk_bs (mn_ix (show i < 6 by omega) (by omega)), hq i hi]
            cases T.testBit i
            · rw [if_neg (by decide), if_neg (by decide)]
              exact congrArg some (mn_sub (a := 1000000) hi')
            · rw [if_pos (by decide), if_pos rfl]
          rw [mk_bs ej]
          have jl : (if T.testBit i = true then mk_hr A U i else 1000000 - mk_hr A U i) ≤ 1000000 := by split <;> omega
          generalize (if T.testBit i = true then mk_hr A U i else 1000000 - mk_hr A U i) = j at jl ⊢
          have ml := Nat.mul_le_mul sl jl
          rw [mn_3264 (by omega)]
          show some (Int64.ofNat (mk_sh (mk_hr A U) U T i) * Int64.ofNat j / Int64.ofNat 1000000) = _
          rw [mn_mul64, mn_div64 (by omega) (by omega)]
        · rw [if_neg (by decide), if_pos rfl]
      · refine mk_ok.let ?_
        rw [mn_addl 1]
        exact mk_ok.inl ⟨rfl, rfl⟩
    · rw [f1, if_pos (Int32.le_refl _)]
      exact mk_ok.inr f2
  obtain ⟨v, e, q⟩ := L
  rw [e, q]
