/-! WHAT THE CLASS HOLDS: the town cell t (79 or 96), a state cell a, the law; its small methods and its worths -/
def mk_pr (A : mk_A) : Nat := mk_set (fun p => decide (A 266 p = 3)) (A 263 0)
def mk_fa (A : mk_A) : Nat := mk_set (fun k => decide (A 269 k = 1)) (A 263 1)
/-- the chance told for a pair, + 1; 0 where there is none -/
def mk_ear (A : mk_A) (p q : Nat) : Nat → Nat
  | 0 => 0
  | n + 1 => if A 275 n = p ∧ A 276 n = q then A 277 n + 1 else mk_ear A p q n
def mk_EX (t : Nat) (E : mk_E) (h : mm_H) : Prop := match E with
  | none => h.1 (t + 14) 2 = 0
  | some f => ¬ h.1 (t + 14) 2 = 0 ∧ ∀ h' : mm_H, h'.1 (t + 14) 2 = h.1 (t + 14) 2 → h'.1 (t + 15) = h.1 (t + 15) → ∀ c n a hi : Int32, ∃ h'', f_La_value (t + 14) c n a hi h' = some (f c n a hi, h'') ∧ mk_ch (fun z => z = t + 16) h' h''
def mk_XT (A : mk_A) (E : mk_E) (t : Nat) (h : mm_H) : Prop := (t = 79 ∨ t = 96) ∧ (h.1 t 0 = Int32.ofNat (A 263 0) ∧ h.1 t 6 = Int32.ofNat (A 263 1) ∧ h.1 t 13 = Int32.ofNat (A 263 2) ∧ h.1 t 17 = Int32.ofNat (A 263 3) ∧ h.1 t 5 = Int32.ofNat (mk_pr A) ∧ h.1 t 8 = Int32.ofNat (mk_fa A)) ∧ (∀ p, p < A 263 0 → h.1 (t + 2) p = Int32.ofNat (A 266 p) ∧ h.1 (t + 3) p = Int32.ofNat (A 267 p) ∧ h.1 (t + 4) p = Int32.ofNat (A 268 p)) ∧ (∀ k, k < A 263 1 → h.1 (t + 6) k = Int32.ofNat (A 270 k) ∧ h.1 (t + 7) k = Int32.ofNat (A 271 k) ∧ h.1 (t + 8) k = Int32.ofNat (A 272 k) - 1 ∧ h.1 (t + 9) k = Int32.ofNat (A 273 k) ∧ h.1 (t + 13) k = Int32.ofNat (A 274 k)) ∧ (∀ e, e < A 263 2 → h.1 (t + 10) e = Int32.ofNat (A 275 e) ∧ h.1 (t + 11) e = Int32.ofNat (A 276 e)) ∧ (∀ p q, p < A 263 0 → q < A 263 0 → h.1 (t + 12) (p * 6 + q) = Int32.ofNat (mk_ear A p q (A 263 2)) - 1) ∧ mk_EX t E h
/-- a state cell a holds the row r -/
def mk_XS (A : mk_A) (a : Nat) (r : Nat → Nat) (h : mm_H) : Prop := mm_tg a = 4 ∧ (∀ k, k < A 263 1 → h.1 (a + 1) k = Int32.ofNat (r k)) ∧ (∀ p, p < A 263 0 → h.1 (a + 3) p = Int32.ofNat (r (70 + p)) ∧ h.1 (a + 4) p = Int32.ofNat (r (79 + p))) ∧ h.1 a 5 = Int32.ofNat (r 76) ∧ h.1 a 6 = Int32.ofNat (r 77) ∧ h.1 a 7 = Int32.ofNat (r 78) ∧ h.1 a 8 = Int32.ofNat (r 122) ∧ h.1 a 9 = Int32.ofNat (r 85)
theorem mk_tt {t : Nat} (h : t = 79 ∨ t = 96) : mm_tg t = 7 ∧ mm_tg (t + 14) = 2 := by
  rcases h with rfl | rfl <;> exact ⟨by decide +kernel, by decide +kernel⟩
theorem mk_EX.ch {D : Nat → Prop} {t : Nat} {E : mk_E} {h h' : mm_H} (q : mk_EX t E h) (c : mk_ch D h h') (hD : ¬ D (t + 14) ∧ ¬ D (t + 15)) : mk_EX t E h' := by
  unfold mk_EX at q ⊢
  rw [c.e1 hD.1, c.e1 hD.2]
  exact q
theorem mk_XT.ch {D : Nat → Prop} {A : mk_A} {E : mk_E} {t : Nat} {h h' : mm_H} (q : mk_XT A E t h) (c : mk_ch D h h') (hD : ∀ j, D j → j < t ∨ t + 15 < j) : mk_XT A E t h' := by
  have n : ∀ j, j ≤ 15 → ¬ D (t + j) := fun j h1 q => by have := hD _ q; omega
  have n0 : ¬ D t := n 0 (by omega)
  obtain ⟨q0, q1, q2, q3, q4, q5, q6⟩ := q
  refine ⟨q0, ?_, ?_, ?_, ?_, ?_, q6.ch c ⟨n 14 (by omega), n 15 (by omega)⟩⟩
  · rw [c.e1 n0]; exact q1
  · rw [c.e1 (n 2 (by omega)), c.e1 (n 3 (by omega)), c.e1 (n 4 (by omega))]; exact q2
  · rw [c.e1 (n 6 (by omega)), c.e1 (n 7 (by omega)), c.e1 (n 8 (by omega)), c.e1 (n 9 (by omega)), c.e1 (n 13 (by omega))]; exact q3
  · rw [c.e1 (n 10 (by omega)), c.e1 (n 11 (by omega))]; exact q4
  · rw [c.e1 (n 12 (by omega))]; exact q5
theorem mk_XS.ch {D : Nat → Prop} {A : mk_A} {a : Nat} {r : Nat → Nat} {h h' : mm_H} (q : mk_XS A a r h) (c : mk_ch D h h') (hD : ∀ j, D j → j < a ∨ a + 4 < j) : mk_XS A a r h' := by
  have n : ∀ j, j ≤ 4 → ¬ D (a + j) := fun j h1 q => by have := hD _ q; omega
  have n0 : ¬ D a := n 0 (by omega)
  obtain ⟨q0, q1, q2, q3⟩ := q
  refine ⟨q0, ?_, ?_, ?_⟩
  · rw [c.e1 (n 1 (by omega))]; exact q1
  · rw [c.e1 (n 3 (by omega)), c.e1 (n 4 (by omega))]; exact q2
  · rw [c.e1 n0]; exact q3
theorem mk_pr_lt (A : mk_A) : mk_pr A < 2 ^ A 263 0 := mk_set_lt _ _
theorem mx_knowers {A : mk_A} {E : mk_E} {t : Nat} {h : mm_H} (hT : mk_T A) (hX : mk_XT A E t h) {s : Nat} (hs : s < 2 ^ A 263 0) : f_To_knowers t (Int32.ofNat s) h = some (Int32.ofNat (mk_kn A s)) := by
  have hP := hT.1.1
  have e5 := hX.2.1.2.2.2.2.1
  have b0 : mk_dif s (mk_pr A) < 2 ^ A 263 0 := by
    apply Nat.lt_pow_two_of_testBit
    intro i hi
    rw [mk_dif_bit, Nat.testBit_lt_two_pow (Nat.lt_of_lt_of_le hs (Nat.pow_le_pow_right (by omega) hi))]
    rfl
  have b1 := mk_p2 hP b0
  unfold f_To_knowers
  rw [if_pos (mk_tt hX.1).1, e5, mn_dif, mn_bc (by omega)]
  have e : mk_pc (mk_dif s (mk_pr A)) = mk_kn A s := by
    unfold mk_pc mk_kn
    have e1 : ∀ n, A 263 0 ≤ n → mk_cnt (mk_dif s (mk_pr A)).testBit n = mk_cnt (fun p => s.testBit p && !decide (A 266 p = 3)) (A 263 0) := by
      intro n
      induction n with
      | zero =>
        intro hn
        have : A 263 0 = 0 := by omega
        rw [this]; rfl
      | succ n ih =>
        intro hn
        by_cases e : A 263 0 = n + 1
        · rw [e]
          refine mk_cnt_congr (fun i hi => ?_)
          rw [mk_dif_bit]
          unfold mk_pr
          rw [mk_set_bit, e]
          simp [hi]
        · have h0 : (mk_dif s (mk_pr A)).testBit n = false := by
            rw [mk_dif_bit, Nat.testBit_lt_two_pow (Nat.lt_of_lt_of_le hs (Nat.pow_le_pow_right (by omega) (by omega)))]
            rfl
          show mk_cnt _ n + _ = _
          rw [h0, ih (by omega)]
          rfl
    exact e1 10 (by omega)
  rw [e]
  rfl
theorem mx_speaks {A : mk_A} {E : mk_E} {t : Nat} {h : mm_H} (hT : mk_T A) (hX : mk_XT A E t h) {p : Nat} (hp : p < A 263 0) : f_To_speaks t (Int32.ofNat p) h = some (Int32.ofNat (mk_sp A p).toNat) := by
  have hP := hT.1.1
  have e1 := (hX.2.2.1 p hp).1
  have e2 := (hT.2.1 p hp).1
  unfold f_To_speaks mk_sp
  rw [if_pos (mk_tt hX.1).1]
  simp (disch := omega) only [mn_ix, Option.bind_some, e1, mn_eql]
  by_cases h2 : A 266 p = 2
  · simp [h2]
  · by_cases h3 : A 266 p = 3
    · simp [h3]
    · simp [h2, h3]
theorem mx_known {A : mk_A} {E : mk_E} {t a : Nat} {r : Nat → Nat} {h : mm_H} (hT : mk_T A) (hX : mk_XT A E t h) (hW : mk_W A r) (hS : mk_XS A a r h) {p : Nat} (hp : p < 31) : f_St_known a t (Int32.ofNat p) h = some (Int32.ofNat (mk_kb A r p)) := by
  have hP := hT.1.1
  have hS1 := hT.1.2.1
  have e0 := hX.2.1.2.1
  unfold f_St_known
  rw [if_pos ⟨hS.1, (mk_tt hX.1).1⟩]
  refine (mk_bs (mm_while_for (g := fun i => (Int32.ofNat (mk_set (fun k => (r k).testBit p) i), Int32.ofNat i)) (A 263 1) (fun i hi => ?_) ?_)).trans rfl
  · have e1 := hS.2.1 i (by omega)
    have e2 := mk_p2 hP (hW.1 i hi)
    simp (disch := omega) only [e0, mn_le, mn_xbit, mn_ix, Option.bind_some, e1, mm_let, mn_addl]
    rw [if_neg (by omega)]
    have e3 : Int32.ofNat ((r i).testBit p).toNat <<< (Int32.ofNat i &&& 31) = Int32.ofNat (((r i).testBit p).toNat <<< i) := by
      cases (r i).testBit p
      · exact (by decide +kernel : ∀ j : Nat, j < 32 → Int32.ofNat (false.toNat) <<< (Int32.ofNat j &&& 31) = Int32.ofNat (false.toNat <<< j)) i (by omega)
      · exact (by decide +kernel : ∀ j : Nat, j < 32 → Int32.ofNat (true.toNat) <<< (Int32.ofNat j &&& 31) = Int32.ofNat (true.toNat <<< j)) i (by omega)
    rw [e3, mn_or]
    rfl
  · simp (disch := omega) only [e0, mn_le]
    rw [if_pos (Nat.le_refl _)]
    rfl
theorem mx_lawWorth {A : mk_A} {E : mk_E} {t a : Nat} {r : Nat → Nat} {h : mm_H} (hT : mk_T A) (hX : mk_XT A E t h) (hS : mk_XS A a r h) {k n : Nat} (hk : k < A 263 1) (hn : n ≤ 10) : mk_ok (f_St_lawWorth a t (Int32.ofNat k) (Int32.ofNat n) h) (fun v => v.1 = Int32.ofNat (mk_b A E r k n) ∧ mk_ch (fun z => z = t + 16) h v.2) := by
  have hP := hT.1.1
  have hS1 := hT.1.2.1
  obtain ⟨t1, t2, t3, t4, t5, t6, t7⟩ := hT.2.2.1 k hk
  obtain ⟨e1, e2, e3, e4, e5⟩ := hX.2.2.2.1 k hk
  have hE := hX.2.2.2.2.2.2
  unfold f_St_lawWorth
  rw [if_pos ⟨hS.1, (mk_tt hX.1).1⟩]
  simp (disch := omega) only [mn_ix, Option.bind_some, mm_let, e2]
  cases hE0 : E with
  | none =>
    rw [hE0] at hE
    have hE1 : h.1 (t + 14) 2 = 0 := hE
    rw [if_pos hE1]
    have m1 : f_JM_max (Int32.ofNat n) 1 = some (Int32.ofNat (max n 1)) := mn_max (b := 1) (by omega) (by omega)
    have m2 : mm_nzI (Int32.ofNat (max n 1)) = some () := by
      unfold mm_nzI
      simp (disch := omega) only [mn_eql]
      rw [if_neg (by omega)]
    simp (disch := omega) only [mn_ltl, m1, m2, Option.bind_some, mn_div]
    have eb : mk_b A none r k n = if n ≤ 4 then A 271 k / max 1 n else 0 := rfl
    rw [eb, Nat.max_comm 1 n]
    by_cases h4 : n ≤ 4
    · rw [if_pos (by omega), if_pos h4]
      exact mk_ok.ret ⟨rfl, mk_ch.rf⟩
    · rw [if_neg (by omega), if_neg h4]
      exact mk_ok.ret ⟨rfl, mk_ch.rf⟩
  | some f =>
    rw [hE0] at hE
    obtain ⟨hE1, hE2⟩ := hE
    rw [if_neg hE1]
    have r1 := hS.2.2.2.2.2.2.2
    have r2 := (hS.2.2.1 (A 270 k) t2).1
    simp (disch := omega) only [mn_ix, Option.bind_some, e1, r1, r2]
    obtain ⟨h2, w1, w2⟩ := hE2 h rfl rfl (Int32.ofNat (A 271 k)) (Int32.ofNat n) (Int32.ofNat (r 85)) (Int32.ofNat (r (70 + A 270 k)))
    refine mk_ok.bs w1 ?_
    generalize hv : f (Int32.ofNat (A 271 k)) (Int32.ofNat n) (Int32.ofNat (r 85)) (Int32.ofNat (r (70 + A 270 k))) = x
    have eb : mk_b A (some f) r k n = min 999 x.toInt.toNat := by rw [← hv]; rfl
    rw [eb, mp_min]
    refine mk_ok.bs rfl ?_
    rw [mp_max]
    refine mk_ok.bs rfl ?_
    refine mk_ok.ret ⟨?_, w2⟩
    show (if (0 : Int32) < (if (999 : Int32) < x then 999 else x) then (if (999 : Int32) < x then 999 else x) else 0) = _
    by_cases h0 : 0 ≤ x
    · obtain ⟨m, hm, rfl⟩ := mn_of h0
      rw [mp_ofNat_toInt (by omega)]
      simp (disch := omega) only [mn_llt, Int.toNat_natCast]
      by_cases h9 : 999 < m
      · rw [if_pos h9, Nat.min_eq_left (by omega)]; rfl
      · rw [if_neg h9, Nat.min_eq_right (by omega)]
        simp (disch := omega) only [mn_llt]
        by_cases h1 : 0 < m
        · rw [if_pos h1]
        · rw [if_neg h1]
          have : m = 0 := by omega
          rw [this]; rfl
    · have h1 := Int32.not_le.mp h0
      have h2 : x.toInt < 0 := Int32.lt_iff_toInt_lt.mp h1
      have h3 : x.toInt.toNat = 0 := by omega
      rw [h3]
      have h4 : ¬ (999 : Int32) < x := fun q => by
        have := Int32.lt_iff_toInt_lt.mp q
        have : (999 : Int32).toInt = 999 := by decide
        omega
      have h5 : ¬ (0 : Int32) < x := fun q => by
        have := Int32.lt_iff_toInt_lt.mp q
        have : (0 : Int32).toInt = 0 := by decide
        omega
      rw [if_neg h4, if_neg h5]; rfl
