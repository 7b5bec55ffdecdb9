/-! nights, the class's side: who hears, what is shared -/
theorem mk_chc_self {A : mk_A} (hT : mk_T A) (q : Nat) : mk_chc A q q = 0 := by
  unfold mk_chc
  rw [if_pos (mk_ear_no _ (fun k hk z => (hT.2.2.2.1 k hk).2.2.1 (z.1.trans z.2.symm)))]
theorem mk_chc_le {A : mk_A} (p q : Nat) : mk_chc A p q ≤ 11 := by
  unfold mk_chc
  split <;> omega
theorem mn_max0 {c : Nat} (hc : c ≤ 11) : f_JM_max 0 (Int32.ofNat c - 1) = some (Int32.ofNat (c - 1)) := (by decide +kernel : ∀ c : Nat, c ≤ 11 → f_JM_max 0 (Int32.ofNat c - 1) = some (Int32.ofNat (c - 1))) c hc
theorem mk_mul10 (v : Nat) : v * 10 / 10 = v := Nat.mul_div_cancel v (by decide)
theorem mx_listen {A : mk_A} {E : mk_E} {t U : Nat} {h : mm_H} (hT : mk_T A) (hX : mk_XT A E t h) (hU : U < 2 ^ A 263 0) : mk_ok (f_Ni_listen t (Int32.ofNat U) h) (fun v => mk_ch (fun c => c = 74) h v ∧ ∀ q, q < A 263 0 → v.2.1 74 q = Int64.ofNat (mk_hr A U q)) := by
  have hP := hT.1.1
  have h64 := mk_pow6 hP
  unfold f_Ni_listen
  rw [if_pos (mk_tt hX.1).1]
  refine mk_ok.bind (mk_ok.for (ρ := mm_H) (A 263 0) (fun q (s : Int32 × mm_H) => s.1 = Int32.ofNat q ∧ mk_ch (fun c => c = 74) h s.2 ∧ ∀ x, x < q → s.2.2.1 74 x = Int64.ofNat (mk_hr A U x)) (Q := fun v : mm_H => mk_ch (fun c => c = 74) h v ∧ ∀ q, q < A 263 0 → v.2.1 74 q = Int64.ofNat (mk_hr A U q)) ⟨rfl, mk_ch.rf, fun x hx => absurd hx (by omega)⟩ (fun q s hq ⟨e1, q1, q2⟩ => ?_) (fun s ⟨e1, q1, q2⟩ => ?_)) (fun v q => mk_ok.ret q)
  · have X' := hX.ch q1 (fun c z => by have := hX.1; omega)
    rw [X'.2.1.1, e1, if_neg (fun z => absurd ((mn_le (by omega) (by omega)).mp z) (show ¬ A 263 0 ≤ q by omega))]
    refine mk_ok.bind (mk_ok.for (ρ := Int64) (A 263 0) (fun i (y : Int64 × Int32) => y.2 = Int32.ofNat i ∧ y.1 = Int64.ofNat (mk_lv A U q i)) (Q := fun v => v = Int64.ofNat (mk_lv A U q (A 263 0))) ⟨rfl, rfl⟩ (fun i y hi ⟨f1, f2⟩ => ?_) (fun y ⟨f1, f2⟩ => ?_)) (fun v10 b => ?_)
    · have lv := mk_lv_le (A := A) (U := U) (q := q) i
      have cl := mk_chc_le (A := A) i q
      have en : mk_lv A U q (i + 1) = if (U.testBit i && mk_sp A i) = true then mk_lv A U q i * (10 - (mk_chc A i q - 1)) / 10 else mk_lv A U q i := rfl
      rw [f1, if_neg (fun z => absurd ((mn_le (by omega) (by omega)).mp z) (show ¬ A 263 0 ≤ i by omega)), mk_bs (mn_xbit (show U < 2147483648 by omega) (show i < 31 by omega)), f2, en]
      refine mk_ok.bs (v := Int64.ofNat (if (U.testBit i && mk_sp A i) = true then mk_lv A U q i * (10 - (mk_chc A i q - 1)) / 10 else mk_lv A U q i)) ?_ ?_
      · cases c : U.testBit i
        · rw [if_neg (by decide), Bool.false_and, if_neg (by decide)]
        · rw [if_pos (by decide), Bool.true_and]
          by_cases e : i = q
          · rw [if_pos (by rw [e]), e, mk_chc_self hT]
            show _ = some (Int64.ofNat (if mk_sp A q = true then mk_lv A U q q * 10 / 10 else mk_lv A U q q))
            rw [mk_mul10]
            split <;> rfl
          · rw [if_neg (fun z => e ((mn_eq (by omega) (by omega)).mp z)), mk_bs (mx_speaks hT X' hi)]
            cases d : mk_sp A i
            · rw [if_pos (by decide), if_neg (by decide)]
            · rw [if_neg (by decide), if_pos rfl, mk_bs (mx_chance hT X' hi hq), mk_bs (mn_max0 cl)]
              have e10 : (10 : Int32) - Int32.ofNat (mk_chc A i q - 1) = Int32.ofNat (10 - (mk_chc A i q - 1)) := mn_sub (a := 10) (by omega)
              have ml : mk_lv A U q i * (10 - (mk_chc A i q - 1)) ≤ mk_lv A U q i * 10 := Nat.mul_le_mul_left _ (by omega)
              rw [e10, mn_3264 (by omega), mn_mul64]
              show some (Int64.ofNat (mk_lv A U q i * (10 - (mk_chc A i q - 1))) / Int64.ofNat 10) = _
              rw [mn_div64 (by omega) (by omega)]
      · refine mk_ok.let ?_
        rw [mn_addl 1]
        exact mk_ok.inl ⟨rfl, rfl⟩
    · rw [f1, if_pos (Int32.le_refl _)]
      exact mk_ok.inr f2
    have lv := mk_lv_le (A := A) (U := U) (q := q) (A 263 0)
    have e6 : (1000000 : Int64) - Int64.ofNat (mk_lv A U q (A 263 0)) = Int64.ofNat (mk_hr A U q) := mn_sub64 (a := 1000000) lv
    rw [mk_bs (mn_ix (show q < 6 by omega) (by omega)), b, e6]
    refine mk_ok.let ?_
    refine mk_ok.let ?_
    rw [mn_addl 1]
    refine mk_ok.inl ⟨rfl, q1.tr (mk_ch.pL (D := fun c => c = 74) rfl) (fun _ z => z) (fun _ z => z), fun x hx => ?_⟩
    rw [mp_L2]
    by_cases e : x = q
    · rw [if_pos ⟨rfl, e⟩, e]
    · rw [if_neg (fun z => e z.2)]; exact q2 x (by omega)
  · have X' := hX.ch q1 (fun c z => by have := hX.1; omega)
    rw [X'.2.1.1, e1, if_pos (Int32.le_refl _)]
    exact mk_ok.inr ⟨q1, q2⟩
theorem mk_sh_le {hr : Nat → Nat} {U T : Nat} (hh : ∀ i, hr i ≤ 1000000) : ∀ n, mk_sh hr U T n ≤ 1000000
  | 0 => Nat.le_refl _
  | n + 1 => by
    have ih := mk_sh_le (U := U) (T := T) hh n
    unfold mk_sh
    split
    · exact ih
    · have h1 : (if T.testBit n = true then hr n else 1000000 - hr n) ≤ 1000000 := by
        have := hh n
        split <;> omega
      have := Nat.mul_le_mul_left (mk_sh hr U T n) h1
      refine Nat.le_trans (Nat.div_le_div_right this) ?_
      rw [Nat.mul_div_cancel _ (by decide)]
      exact ih
theorem mx_share {A : mk_A} {E : mk_E} {t U T : Nat} {h : mm_H} (hT : mk_T A) (hX : mk_XT A E t h) (hU : U < 2 ^ A 263 0) (hTT : T < 2 ^ A 263 0) (hq : ∀ q, q < A 263 0 → h.2.1 74 q = Int64.ofNat (mk_hr A U q)) : f_Ni_share t (Int32.ofNat U) (Int32.ofNat T) h = some (Int64.ofNat (mk_sh (mk_hr A U) U T (A 263 0))) := by
  have hP := hT.1.1
  have h64 := mk_pow6 hP
  have hh : ∀ i, mk_hr A U i ≤ 1000000 := fun i => Nat.sub_le _ _
  have L : mk_ok (f_Ni_share t (Int32.ofNat U) (Int32.ofNat T) h) (fun v => v = Int64.ofNat (mk_sh (mk_hr A U) U T (A 263 0))) := by
    unfold f_Ni_share
    rw [if_pos (mk_tt hX.1).1]
    refine mk_ok.bind (mk_ok.for (ρ := Int64) (A 263 0) (fun i (y : Int64 × Int32) => y.2 = Int32.ofNat i ∧ y.1 = Int64.ofNat (mk_sh (mk_hr A U) U T i)) (Q := fun v => v = Int64.ofNat (mk_sh (mk_hr A U) U T (A 263 0))) ⟨rfl, rfl⟩ (fun i y hi ⟨f1, f2⟩ => ?_) (fun y ⟨f1, f2⟩ => ?_)) (fun v q => mk_ok.ret q)
    · have sl := mk_sh_le (U := U) (T := T) hh i
      have hi' := hh i
      have en : mk_sh (mk_hr A U) U T (i + 1) = if U.testBit i = true then mk_sh (mk_hr A U) U T i else mk_sh (mk_hr A U) U T i * (if T.testBit i = true then mk_hr A U i else 1000000 - mk_hr A U i) / 1000000 := rfl
      rw [hX.2.1.1, f1, if_neg (fun z => absurd ((mn_le (by omega) (by omega)).mp z) (show ¬ A 263 0 ≤ i by omega)), mk_bs (mn_xbit (show U < 2147483648 by omega) (show i < 31 by omega)), f2, en]
      refine mk_ok.bs (v := Int64.ofNat (if U.testBit i = true then mk_sh (mk_hr A U) U T i else mk_sh (mk_hr A U) U T i * (if T.testBit i = true then mk_hr A U i else 1000000 - mk_hr A U i) / 1000000)) ?_ ?_
      · cases c : U.testBit i
        · rw [if_pos (by decide), if_neg (by decide), mk_bs (mn_xbit (show T < 2147483648 by omega) (show i < 31 by omega))]
          have ej : ((if Int32.ofNat (T.testBit i).toNat = 1 then ((mm_ix (Int32.ofNat i) 6).bind fun k17 => some (h.2.1 74 k17)) else ((mm_ix (Int32.ofNat i) 6).bind fun k15 => some (1000000 - (h.2.1 74 k15)))) : Option Int64) = some (Int64.ofNat (if T.testBit i = true then mk_hr A U i else 1000000 - mk_hr A U i)) := by
            rw [mk_bs (mn_ix (show i < 6 by omega) (by omega)), mk_bs (mn_ix (show i < 6 by omega) (by omega)), hq i hi]
            cases T.testBit i
            · rw [if_neg (by decide), if_neg (by decide)]
              exact congrArg some (mn_sub64 (a := 1000000) hi')
            · rw [if_pos (by decide), if_pos rfl]
          rw [mk_bs ej]
          have jl : (if T.testBit i = true then mk_hr A U i else 1000000 - mk_hr A U i) ≤ 1000000 := by split <;> omega
          generalize (if T.testBit i = true then mk_hr A U i else 1000000 - mk_hr A U i) = j at jl ⊢
          have ml := Nat.mul_le_mul sl jl
          show some (Int64.ofNat (mk_sh (mk_hr A U) U T i) * Int64.ofNat j / Int64.ofNat 1000000) = _
          rw [mn_mul64, mn_div64 (by omega) (by omega)]
        · rw [if_neg (by decide), if_pos rfl]
      · refine mk_ok.let ?_
        rw [mn_addl 1]
        exact mk_ok.inl ⟨rfl, rfl⟩
    · rw [hX.2.1.1, f1, if_pos (Int32.le_refl _)]
      exact mk_ok.inr f2
  obtain ⟨v, e, q⟩ := L
  rw [e, q]
