/-! WHAT THE STATEMENT GIVES OF THE START, as mm_E has it -/
theorem mw_eq {args : Array Value} {s : State} {t u : Term} {v : Value} (h : (Cond.eq t u).before args s = true) (hu : u.eval args s none [] s = some v) : t.eval args s none [] s = some v := by
  cases hv : t.eval args s none [] s with
  | none => simp [Cond.before, Cond.holds, Cond.value, hv] at h
  | some w =>
    simp only [Cond.before, Cond.holds, Cond.value, hv, hu] at h
    cases w <;> cases v <;> simp_all
abbrev mw_F : List Cond := flatC (Jvm.Cond.and given_1 narrow_1)
theorem mw_exact : ∀ j : Nat, j < 28 → Cond.exactly (.static "PaidSecrets$Word" (mm_wn j) "LPaidSecrets$Word;") "PaidSecrets$Word" ∈ mw_F := by decide +kernel
theorem mw_code : ∀ j : Nat, j < 28 → Cond.eq (.field (.static "PaidSecrets$Word" (mm_wn j) "LPaidSecrets$Word;") "PaidSecrets$Word" "code" "J") (.long (mm_wc j)) ∈ mw_F := by decide +kernel
theorem mw_fact : ∀ j : Nat, j < 28 → Cond.eq (.field (.static "PaidSecrets$Word" (mm_wn j) "LPaidSecrets$Word;") "PaidSecrets$Word" "fact" "I") (.int (mm_wf j)) ∈ mw_F := by decide +kernel
theorem mw_elem : ∀ j : Nat, j < 28 → Cond.eq (.elem (.static "PaidSecrets" "WORDS" "[LPaidSecrets$Word;") (.int (Int32.ofNat j))) (.static "PaidSecrets$Word" (mm_wn j) "LPaidSecrets$Word;") ∈ mw_F := by decide +kernel
theorem mw_lay : ∀ j : Nat, j < 28 → Cond.laysStatic "PaidSecrets$Word" (mm_wn j) "LPaidSecrets$Word;" ∈ lw_tbl := by decide +kernel
theorem mw_wcinj : ∀ i : Nat, i < 28 → ∀ j : Nat, j < 28 → mm_wc i = mm_wc j → i = j := by decide +kernel
theorem mw_1 : Cond.arrayOf (.static "PaidSecrets" "WORDS" "[LPaidSecrets$Word;") (.object "PaidSecrets$Word") ∈ mw_F ∧ Cond.eq (.length (.static "PaidSecrets" "WORDS" "[LPaidSecrets$Word;")) (.int 28) ∈ mw_F ∧ Cond.eq (.static "java/lang/String" "COMPACT_STRINGS" "Z") (.int 1) ∈ mw_F := by decide +kernel
theorem mw_2 : Cond.laysStatic "PaidSecrets" "WORDS" "[LPaidSecrets$Word;" ∈ lw_tbl ∧ Cond.laysStatic "java/lang/String" "COMPACT_STRINGS" "Z" ∈ lw_tbl ∧ Cond.initialized "PaidSecrets" ∈ lw_tbl ∧ Cond.initialized "PaidSecrets$Word" ∈ lw_tbl ∧ Cond.initialized "java/lang/String" ∈ lw_tbl ∧ Cond.stringRef "PaidSecrets$Tape" 55 "()<=+-*;" ∈ lw_tbl := by decide +kernel
theorem mw_3 : Cond.exactly (.string "PaidSecrets$Tape" 55) "java/lang/String" ∈ mw_F ∧ Cond.eq (.field (.string "PaidSecrets$Tape" 55) "java/lang/String" "coder" "B") (.int 0) ∈ mw_F ∧ Cond.arrayOf (.field (.string "PaidSecrets$Tape" 55) "java/lang/String" "value" "[B") .byte ∈ mw_F ∧ Cond.eq (.length (.field (.string "PaidSecrets$Tape" 55) "java/lang/String" "value" "[B")) (.int 8) ∈ mw_F ∧ ∀ j : Nat, j < 8 → Cond.eq (.elem (.field (.string "PaidSecrets$Tape" 55) "java/lang/String" "value" "[B") (.int (Int32.ofNat j))) (.int (mm_byt.getD j 0)) ∈ mw_F := by decide +kernel
theorem mw_4 : Cond.arrayClass .int ∈ lw_tbl ∧ Cond.arrayClass .long ∈ lw_tbl ∧ Cond.arrayClass .char ∈ lw_tbl ∧ Cond.arrayClass .boolean ∈ lw_tbl ∧ Cond.arrayOver (.object "PaidSecrets$State") ∈ lw_tbl ∧ Cond.arrayOver (.object "PaidSecrets$Talk") ∈ lw_tbl := by decide +kernel
theorem mw_5 : ∀ t : Nat, t < 10 → Cond.instantiable (mm_cl.getD t (RX0, TX0, 0)).1 (mm_nf t) ∈ lw_tbl := by decide +kernel
