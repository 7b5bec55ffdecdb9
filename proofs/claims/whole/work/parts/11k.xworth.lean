/-! THE CLASS'S WORTHS, and what its state does: weigh, together, mayTell, mayPay, take, a quarter's end -/
def mk_DX (t : Nat) (c : Nat) : Prop := c = 76 ∨ c = t + 16
def mk_sa (a : Nat) : Prop := a = 35 ∨ a = 41
theorem mk_DX1 {A : mk_A} {E : mk_E} {t : Nat} {h : mm_H} (hX : mk_XT A E t h) : ∀ j, mk_DX t j → j < t ∨ t + 15 < j := fun j q => by
  have := hX.1
  unfold mk_DX at q
  omega
theorem mk_DX2 {A : mk_A} {E : mk_E} {t a : Nat} {h : mm_H} (hX : mk_XT A E t h) (ha : mk_sa a) : ∀ j, mk_DX t j → j < a ∨ a + 5 < j := fun j q => by
  have := hX.1
  unfold mk_DX at q
  unfold mk_sa at ha
  omega
theorem mk_t76 : mm_tg 76 = 20 ∧ mm_ln 76 = 10 := ⟨by decide +kernel, by decide +kernel⟩
theorem mx_weigh {A : mk_A} {E : mk_E} {t a : Nat} {r : Nat → Nat} {h : mm_H} (hT : mk_T A) (hW : mk_W A r) (hX : mk_XT A E t h) (ha : mk_sa a) (hS : mk_XS A a r h) : mk_ok (f_St_weigh a t 76 h) (fun v => mk_ch (mk_DX t) h v ∧ ∀ k, k < A 263 1 → v.1 76 k = Int32.ofNat (mk_w A E r k)) := by
  have hP := hT.1.1
  have hS1 := hT.1.2.1
  unfold f_St_weigh
  rw [if_pos ⟨hS.1, (mk_tt hX.1).1, mk_t76.1⟩]
  refine mk_ok.bind (mk_ok.for (A 263 1) (fun i z => z.1 = Int32.ofNat i ∧ mk_ch (mk_DX t) h z.2 ∧ ∀ k, k < i → z.2.1 76 k = Int32.ofNat (mk_w A E r k)) (Q := fun v => mk_ch (mk_DX t) h v ∧ ∀ k, k < A 263 1 → v.1 76 k = Int32.ofNat (mk_w A E r k)) ⟨rfl, mk_ch.rf, fun k hk => by omega⟩ (fun i z hi hz => ?_) (fun z hz => ?_)) (fun v hv => mk_ok.ret hv)
  · obtain ⟨z1, z2⟩ := z
    obtain ⟨q1, q2, q3⟩ := hz
    replace q1 : z1 = Int32.ofNat i := q1
    replace q2 : mk_ch (mk_DX t) h z2 := q2
    replace q3 : ∀ k, k < i → z2.1 76 k = Int32.ofNat (mk_w A E r k) := q3
    subst q1
    obtain ⟨t1, t2, t3, t4, t5, t6, t7⟩ := hT.2.2.1 i hi
    have c1 : mk_ch (mk_DX t) h (mm_pI z2 76 i 0) := q2.tr (mk_ch.pI (D := mk_DX t) (Or.inl rfl)) (fun _ q => q) (fun _ q => q)
    have hX1 := hX.ch c1 (mk_DX1 hX)
    have hS2 := hS.ch c1 (fun j q => by have := mk_DX2 hX ha j q; omega)
    have e0 := (hX.ch q2 (mk_DX1 hX)).2.1.2.1
    have e1 := hS2.2.2.2.1
    have e2 := mk_s2 hS1 hW.2.2.1
    have e3 := hS2.2.1 i hi
    have e4 := hW.1 i hi
    have e5 := (hX1.2.2.2.1 i hi).2.2.1
    simp (disch := omega) only [e0, mn_le, mk_t76.2, mn_ix, Option.bind_some, mm_let, e1, mn_xbit, mn_b0, e3, e5]
    rw [if_neg (by omega)]
    refine mk_ok.bind (Q := fun y => mk_ch (mk_DX t) h y ∧ ∀ k, k < i + 1 → y.1 76 k = Int32.ofNat (mk_w A E r k)) ?_ (fun y ⟨y1, y2⟩ => ?_)
    · by_cases hm : (r 76).testBit i = false
      · rw [if_pos hm]
        refine mk_ok.bs (mx_knowers hT hX1 e4) ?_
        have kl := mk_kn_le (A := A) (s := r i)
        refine mk_ok.bind (mx_lawWorth hT hX1 hS2 hi (n := mk_kn A (r i)) (by omega)) (fun v24 ⟨w1, w2⟩ => ?_)
        have c2 : mk_ch (mk_DX t) h v24.2 := c1.tr w2 (fun _ q => q) (fun _ q => Or.inr q)
        have n76 : v24.2.1 76 = (mm_pI z2 76 i 0).1 76 := w2.e1 (by have := hX.1; omega)
        have ew : mk_w A E r i = mk_b A E r i (mk_kn A (r i)) + (if A 272 i = 0 then 0 else mk_w A E r (A 272 i - 1)) := by
          rw [mk_w_eq t5, if_neg (by rw [hm]; decide)]
        refine mk_ok.bind (Q := fun j25 => j25 = Int32.ofNat (if A 272 i = 0 then 0 else mk_w A E r (A 272 i - 1))) ?_ (fun j25 hj => ?_)
        · by_cases ho : A 272 i = 0
          · simp only [ho, mn_on0, if_false, if_true]
            exact mk_ok.ret rfl
          · rw [mn_on1 ho, if_neg ho]
            simp (disch := omega) only [mn_lle, mn_ix, Option.bind_some]
            rw [if_pos (by omega)]
            refine mk_ok.ret ?_
            rw [n76, mp_I1, if_neg (by omega)]
            exact q3 _ (by omega)
        · subst hj
          refine mk_ok.ret ⟨c2.tr (mk_ch.pI (D := mk_DX t) (Or.inl rfl)) (fun _ q => q) (fun _ q => q), fun k hk => ?_⟩
          rw [mp_I1]
          by_cases hki : k = i
          · rw [if_pos ⟨rfl, hki⟩, hki, ew, w1, mn_add]
          · rw [if_neg (fun q => hki q.2), n76, mp_I1, if_neg (fun q => hki q.2)]
            exact q3 k (by omega)
      · rw [if_neg hm]
        refine mk_ok.ret ⟨c1, fun k hk => ?_⟩
        rw [mp_I1]
        by_cases hki : k = i
        · have hmt : (r 76).testBit i = true := by simpa using hm
          rw [if_pos ⟨rfl, hki⟩, hki, mk_w_eq t5, if_pos hmt]
          rfl
        · rw [if_neg (fun q => hki q.2)]
          exact q3 k (by omega)
    · simp only [mn_addl]
      exact mk_ok.inl ⟨rfl, y1, y2⟩
  · obtain ⟨z1, z2⟩ := z
    obtain ⟨q1, q2, q3⟩ := hz
    replace q1 : z1 = _ := q1
    replace q2 : mk_ch (mk_DX t) h z2 := q2
    subst q1
    have e0 := (hX.ch q2 (mk_DX1 hX)).2.1.2.1
    simp (disch := omega) only [e0, mn_le]
    rw [if_pos (Nat.le_refl _)]
    exact mk_ok.inr ⟨q2, q3⟩
theorem mx_gT {h : mm_H} {t : Nat} (e : h.2.2 32 14 = some t) (ht : t = 79 ∨ t = 96) : mm_gT h 14 = some t := by
  unfold mm_gT
  rw [e]
  exact if_pos (mk_tt ht).1
theorem mx_weighed {A : mk_A} {E : mk_E} {t a : Nat} {r : Nat → Nat} {h : mm_H} (hT : mk_T A) (hW : mk_W A r) (hh : h.2.2 32 14 = some t) (hX : mk_XT A E t h) (ha : mk_sa a) (hS : mk_XS A a r h) : mk_ok (f_X_weighed a h) (fun v => mk_ch (mk_DX t) h v ∧ ∀ k, k < A 263 1 → v.1 76 k = Int32.ofNat (mk_w A E r k)) := by
  unfold f_X_weighed
  rw [if_pos hS.1]
  refine mk_ok.bs (mx_gT hh hX.1) ?_
  exact mk_ok.bind (mx_weigh hT hW hX ha hS) (fun v hv => mk_ok.ret hv)
theorem mx_together {A : mk_A} {E : mk_E} {r : Nat → Nat} {h : mm_H} (hT : mk_T A) (hw : ∀ k, k < A 263 1 → h.1 76 k = Int32.ofNat (mk_w A E r k)) {s : Nat} (hs : s < 2 ^ A 263 1) : f_X_together 76 (Int32.ofNat s) h = some (Int32.ofNat (mk_ws A E r s)) := by
  have hS := hT.1.2.1
  have b := mk_s2 hS hs
  have e : mk_ws A E r s = mk_sum (fun k => if s.testBit k = true then mk_w A E r k else 0) 10 := by
    refine (mk_sum_more hS (fun i h1 _ => ?_)).symm
    rw [Nat.testBit_lt_two_pow (Nat.lt_of_lt_of_le hs (Nat.pow_le_pow_right (by omega) h1))]
    rfl
  rw [e]
  unfold f_X_together
  rw [if_pos mk_t76.1]
  refine (mk_bs (mm_while_for (g := fun i => (Int32.ofNat (mk_sum (fun k => if s.testBit k = true then mk_w A E r k else 0) i), Int32.ofNat i)) 10 (fun i hi => ?_) ?_)).trans rfl
  · simp (disch := omega) only [mn_lle, mn_xbit, Option.bind_some, mk_t76.2, mn_ix, mm_let, mn_addl]
    rw [if_neg (by omega)]
    have e2 : Int32.ofNat (s.testBit i).toNat * h.1 76 i = Int32.ofNat (if s.testBit i = true then mk_w A E r i else 0) := by
      cases hb : s.testBit i
      · exact Int32.zero_mul
      · have hi2 : i < A 263 1 := by
          refine Nat.lt_of_not_le (fun q => ?_)
          rw [Nat.testBit_lt_two_pow (Nat.lt_of_lt_of_le hs (Nat.pow_le_pow_right (by omega) q))] at hb
          cases hb
        rw [hw i hi2]
        exact Int32.one_mul _
    rw [e2, mn_add]
    rfl
  · rfl
/-- who a number means -/
def mk_is (n : Nat) (x : Int32) : Prop := ∃ p, p < n ∧ x = Int32.ofNat p
theorem mk_is_iff {n : Nat} (hn : n < 2147483648) {x : Int32} : mk_is n x ↔ 0 ≤ x ∧ x < Int32.ofNat n := by
  constructor
  · rintro ⟨p, hp, rfl⟩
    exact ⟨by have := (mn_lle (a := p) (b := 0) (by omega) (by decide)).mpr (Nat.zero_le _); exact this, (mn_lt (by omega) hn).mpr hp⟩
  · rintro ⟨h0, h1⟩
    obtain ⟨p, hp, rfl⟩ := mn_of h0
    exact ⟨p, (mn_lt hp hn).mp h1, rfl⟩
theorem mk_has {n : Nat} (hn : n < 2147483648) {x : Int32} : (if x < 0 then some 0 else if Int32.ofNat n ≤ x then some 0 else some 1 : Option Int32) = some (@ite _ (mk_is n x) (Classical.propDecidable _) 1 0) := by
  by_cases h : mk_is n x
  · have := (mk_is_iff hn).mp h
    rw [if_neg (Int32.not_lt.mpr this.1), if_neg (Int32.not_le.mpr this.2), if_pos h]
  · rw [if_neg h]
    by_cases h1 : x < 0
    · rw [if_pos h1]
    · by_cases h2 : Int32.ofNat n ≤ x
      · rw [if_neg h1, if_pos h2]
      · exact absurd ((mk_is_iff hn).mpr ⟨Int32.not_lt.mp h1, Int32.not_le.mp h2⟩) h
theorem mx_hasPerson {A : mk_A} {E : mk_E} {t : Nat} {h : mm_H} (hT : mk_T A) (hX : mk_XT A E t h) (x : Int32) : f_To_hasPerson t x h = some (@ite _ (mk_is (A 263 0) x) (Classical.propDecidable _) 1 0) := by
  have hP := hT.1.1
  unfold f_To_hasPerson
  rw [if_pos (mk_tt hX.1).1, hX.2.1.1, ← mk_has (by omega)]
theorem mx_hasSecret {A : mk_A} {E : mk_E} {t : Nat} {h : mm_H} (hT : mk_T A) (hX : mk_XT A E t h) (x : Int32) : f_To_hasSecret t x h = some (@ite _ (mk_is (A 263 1) x) (Classical.propDecidable _) 1 0) := by
  have hP := hT.1.2.1
  unfold f_To_hasSecret
  rw [if_pos (mk_tt hX.1).1, hX.2.1.2.1, ← mk_has (by omega)]
theorem mi_isPerson {A : mk_A} {E : mk_E} {h : mm_H} (hT : mk_T A) (hM : mk_MT A E h) (x : Int32) : f_M_isPerson x h = some (@ite _ (mk_is (A 263 0) x) (Classical.propDecidable _) 1 0) := by
  have hP := hT.1.1
  unfold f_M_isPerson
  rw [hM.1 0 (by omega), ← mk_has (by omega)]
theorem mi_isSecret {A : mk_A} {E : mk_E} {h : mm_H} (hT : mk_T A) (hM : mk_MT A E h) (x : Int32) : f_M_isSecret x h = some (@ite _ (mk_is (A 263 1) x) (Classical.propDecidable _) 1 0) := by
  have hP := hT.1.2.1
  unfold f_M_isSecret
  rw [hM.1 1 (by omega), ← mk_has (by omega)]
/-- two different people -/
def mk_two (A : mk_A) (x y : Int32) : Prop := mk_is (A 263 0) x ∧ mk_is (A 263 0) y ∧ ¬ x = y
theorem mk_has2 {A : mk_A} {x y : Int32} {k : Option Int32} {o1 o2 : Option Int32} (h1 : o1 = some (@ite _ (mk_is (A 263 0) x) (Classical.propDecidable _) 1 0)) (h2 : o2 = some (@ite _ (mk_is (A 263 0) y) (Classical.propDecidable _) 1 0)) : (o1.bind fun v2 => if v2 = 0 then (some 0) else (o2.bind fun v4 => if v4 = 0 then (some 0) else (if x = y then (some 0) else (some 1))) : Option Int32) = some (@ite _ (mk_two A x y) (Classical.propDecidable _) 1 0) := by
  rw [h1, h2]
  simp only [Option.bind_some]
  by_cases a : mk_is (A 263 0) x
  · rw [if_pos a]
    by_cases b : mk_is (A 263 0) y
    · rw [if_pos b]
      by_cases c : x = y
      · rw [if_neg (show ¬ mk_two A x y from fun q => q.2.2 c), if_neg (by decide), if_neg (by decide), if_pos c]
      · rw [if_pos (show mk_two A x y from ⟨a, b, c⟩), if_neg (by decide), if_neg (by decide), if_neg c]
    · rw [if_neg b, if_neg (show ¬ mk_two A x y from fun q => b q.2.1), if_neg (by decide), if_pos rfl]
  · rw [if_neg a, if_neg (show ¬ mk_two A x y from fun q => a q.1), if_pos rfl]
theorem mx_hasPair {A : mk_A} {E : mk_E} {t : Nat} {h : mm_H} (hT : mk_T A) (hX : mk_XT A E t h) (x y : Int32) : f_To_hasPair t x y h = some (@ite _ (mk_two A x y) (Classical.propDecidable _) 1 0) := by
  unfold f_To_hasPair
  rw [if_pos (mk_tt hX.1).1]
  exact mk_has2 (k := none) (mx_hasPerson hT hX x) (mx_hasPerson hT hX y)
theorem mi_areTwo {A : mk_A} {E : mk_E} {h : mm_H} (hT : mk_T A) (hM : mk_MT A E h) (x y : Int32) : f_M_areTwo x y h = some (@ite _ (mk_two A x y) (Classical.propDecidable _) 1 0) := by
  unfold f_M_areTwo
  exact mk_has2 (k := none) (mi_isPerson hT hM x) (mi_isPerson hT hM y)
