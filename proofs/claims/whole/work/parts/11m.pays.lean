/-! PAYING, AND A QUARTER'S END, on both sides -/
/-- may p pay by the set s -/
def mk_cp (A : mk_A) (E : mk_E) (r : Nat → Nat) (p s : Nat) : Bool := !(r 78).testBit p && (decide (0 < s) && (decide (mk_dif s (mk_dif (mk_kb A r p) (r 77)) = 0) && decide (A 268 p ≤ mk_ws A E r s)))
theorem mk_dif_0 {s u : Nat} : mk_dif s u = 0 ↔ ∀ i, s.testBit i = true → u.testBit i = true := by
  constructor
  · intro h i hi
    have h1 := mk_dif_bit s u i
    rw [h, Nat.zero_testBit, hi] at h1
    cases hu : u.testBit i
    · rw [hu] at h1; cases h1
    · rfl
  · intro h
    apply Nat.eq_of_testBit_eq
    intro i
    rw [mk_dif_bit, Nat.zero_testBit]
    cases hs : s.testBit i
    · rfl
    · rw [h i hs]; rfl
theorem mk_dif_le {s u n : Nat} (h : s < 2 ^ n) : mk_dif s u < 2 ^ n := by
  apply Nat.lt_pow_two_of_testBit
  intro i hi
  rw [mk_dif_bit, Nat.testBit_lt_two_pow (Nat.lt_of_lt_of_le h (Nat.pow_le_pow_right (by omega) hi))]
  rfl
theorem mk_sub_lt {s u n : Nat} (h : mk_dif s u = 0) (hu : u < 2 ^ n) : s < 2 ^ n := by
  apply Nat.lt_pow_two_of_testBit
  intro i hi
  cases hs : s.testBit i
  · rfl
  · have := mk_dif_0.mp h i hs
    rw [Nat.testBit_lt_two_pow (Nat.lt_of_lt_of_le hu (Nat.pow_le_pow_right (by omega) hi))] at this
    cases this
theorem mk_kb_lt (A : mk_A) (r : Nat → Nat) (p : Nat) : mk_kb A r p < 2 ^ A 263 1 := mk_set_lt _ _
theorem mk_31 : (2147483648 : Nat) = 2 ^ 31 := by decide
theorem mx_payable {A : mk_A} {E : mk_E} {t a : Nat} {r : Nat → Nat} {h : mm_H} (hT : mk_T A) (hX : mk_XT A E t h) (hW : mk_W A r) (hS : mk_XS A a r h) {p : Nat} (hp : p < 31) : f_St_payable a t (Int32.ofNat p) h = some (Int32.ofNat (mk_dif (mk_kb A r p) (r 77))) := by
  have e77 := hS.2.2.2.2.1
  unfold f_St_payable
  rw [if_pos ⟨hS.1, (mk_tt hX.1).1⟩, mx_known hT hX hW hS hp]
  simp only [Option.bind_some, e77, mn_dif]
theorem mx_mayPay {A : mk_A} {E : mk_E} {t a : Nat} {r : Nat → Nat} {h : mm_H} (hT : mk_T A) (hX : mk_XT A E t h) (hW : mk_W A r) (hS : mk_XS A a r h) (hw : ∀ k, k < A 263 1 → h.1 76 k = Int32.ofNat (mk_w A E r k)) {p s : Nat} (hp : p < A 263 0) (hs : s < 2147483648) : f_St_mayPay a t (Int32.ofNat p) (Int32.ofNat s) 76 h = some (Int32.ofNat (mk_cp A E r p s).toNat) := by
  have hP := hT.1.1
  have hS1 := hT.1.2.1
  have e78 := hS.2.2.2.2.2.1
  have b78 := mk_p2 hP hW.2.2.2.2.1
  have e4 := (hX.2.2.1 p hp).2.2
  have b4 := (hT.2.1 p hp).2.2
  have bl : mk_dif s (mk_dif (mk_kb A r p) (r 77)) < 2147483648 := by rw [mk_31]; exact mk_dif_le (by rw [← mk_31]; exact hs)
  unfold f_St_mayPay mk_cp
  rw [if_pos ⟨hS.1, (mk_tt hX.1).1, mk_t76.1⟩, e78, mx_payable hT hX hW hS (by omega)]
  simp (disch := omega) only [mn_xbit, Option.bind_some, mn_b0, mn_dif, mn_lel, mn_eql]
  cases hb : (r 78).testBit p
  · rw [if_pos rfl]
    by_cases h0 : s ≤ 0
    · rw [if_pos h0, decide_eq_false (by omega)]
      rfl
    · rw [if_neg h0, decide_eq_true (by omega)]
      by_cases h1 : mk_dif s (mk_dif (mk_kb A r p) (r 77)) = 0
      · have s1 : s < 2 ^ A 263 1 := mk_sub_lt h1 (mk_dif_le (mk_kb_lt A r p))
        have wl := mk_ws_le (E := E) (r := r) (s := s) hT
        rw [if_pos h1, mx_together hT hw s1, decide_eq_true h1]
        simp (disch := omega) only [Option.bind_some, mn_ix, e4, mn_lt]
        by_cases h2 : mk_ws A E r s < A 268 p
        · rw [if_pos h2, decide_eq_false (by omega)]; rfl
        · rw [if_neg h2, decide_eq_true (by omega)]; rfl
      · rw [if_neg h1, decide_eq_false h1]; rfl
  · rw [if_neg (by decide)]; rfl
theorem mi_canPay {A : mk_A} {E : mk_E} {r : Nat → Nat} {h : mm_H} (hT : mk_T A) (hW : mk_W A r) (hM : mk_MT A E h) (hR : mk_MR r h) {p s : Nat} (hp : p < A 263 0) (hs : s < 2147483648) : mk_ok (f_M_canPay (Int32.ofNat p) (Int32.ofNat s) h) (fun v => v.1 = Int32.ofNat (mk_cp A E r p s).toNat ∧ mk_ch mk_DM h v.2) := by
  have hP := hT.1.1
  have hS1 := hT.1.2.1
  have e78 := hR 78 (by omega)
  have e77 := hR 77 (by omega)
  have b78 := mk_p2 hP hW.2.2.2.2.1
  have b4 := (hT.2.1 p hp).2.2
  have bl : mk_dif s (mk_dif (mk_kb A r p) (r 77)) < 2147483648 := by rw [mk_31]; exact mk_dif_le (by rw [← mk_31]; exact hs)
  unfold f_M_canPay mk_cp
  rw [e78, e77, mi_knownBy hT hM hW hR (by omega)]
  simp (disch := omega) only [mn_bit, Option.bind_some, mn_b0, mn_dif, mn_lel, mn_eql]
  cases hb : (r 78).testBit p
  · rw [if_pos rfl]
    by_cases h0 : s ≤ 0
    · rw [if_pos h0, decide_eq_false (by omega)]
      exact mk_ok.ret ⟨rfl, mk_ch.rf⟩
    · rw [if_neg h0, decide_eq_true (by omega)]
      by_cases h1 : mk_dif s (mk_dif (mk_kb A r p) (r 77)) = 0
      · have wl := mk_ws_le (E := E) (r := r) (s := s) hT
        rw [if_pos h1, decide_eq_true h1]
        refine mk_ok.bind (mi_worthsOf hT hW hM hR hs) (fun v ⟨v1, v2⟩ => ?_)
        have e4 := ((hM.ch v2 mk_DM1).2.1 p (by omega)).2.2
        simp (disch := omega) only [Option.bind_some, mn_ix, e4, v1, mn_lt]
        by_cases h2 : mk_ws A E r s < A 268 p
        · rw [if_pos h2, decide_eq_false (by omega)]
          exact mk_ok.ret ⟨rfl, v2⟩
        · rw [if_neg h2, decide_eq_true (by omega)]
          exact mk_ok.ret ⟨rfl, v2⟩
      · rw [if_neg h1, decide_eq_false h1]
        exact mk_ok.ret ⟨rfl, mk_ch.rf⟩
  · rw [if_neg (by decide)]
    exact mk_ok.ret ⟨rfl, mk_ch.rf⟩
/-- a set that isn't above 0 can't pay -/
theorem mx_mayPay0 {A : mk_A} {E : mk_E} {t a : Nat} {r : Nat → Nat} {h : mm_H} (hX : mk_XT A E t h) (hS : mk_XS A a r h) (x y : Int32) (hy : y ≤ 0) : f_St_mayPay a t x y 76 h = some 0 := by
  unfold f_St_mayPay
  rw [if_pos ⟨hS.1, (mk_tt hX.1).1, mk_t76.1⟩, mp_bit]
  simp only [Option.bind_some]
  split
  · first | rfl | rw [if_pos hy]
  · rfl
theorem mi_canPay0 {h : mm_H} (x y : Int32) (hy : y ≤ 0) : f_M_canPay x y h = some (0, h) := by
  unfold f_M_canPay
  split
  · first | rfl | rw [if_pos hy]
  · rfl
def mk_pay (r : Nat → Nat) (p s : Nat) : Nat → Nat := fun j => if j = 77 then r 77 ||| s else if j = 78 then r 78 ||| 2 ^ p else r j
theorem mk_pay_W {A : mk_A} {E : mk_E} {r : Nat → Nat} (hT : mk_T A) (hW : mk_W A r) {p s : Nat} (hp : p < A 263 0) (hs : s < 2 ^ A 263 1) : mk_W A (mk_pay r p s) := by
  have hP := hT.1.1
  have hS := hT.1.2.1
  obtain ⟨w1, w2, w3, w4, w5, w6, w7, w8⟩ := hW
  have n : ∀ j, ¬ j = 77 → ¬ j = 78 → mk_pay r p s j = r j := fun j h1 h2 => by unfold mk_pay; rw [if_neg h1, if_neg h2]
  refine ⟨fun j hj => ?_, fun i hi => ?_, ?_, ?_, ?_, ?_, fun i j hi hj => ?_, fun i j hi hj hij => ?_⟩
  · rw [n _ (by omega) (by omega)]; exact w1 j hj
  · rw [n _ (by omega) (by omega)]; exact w2 i hi
  · rw [n _ (by omega) (by omega)]; exact w3
  · exact Nat.or_lt_two_pow w4 hs
  · exact mk_or2 w5 hp
  · rw [n _ (by omega) (by omega)]; exact w6
  · rw [n _ (by omega) (by omega)]; exact w7 i j hi hj
  · rw [n _ (by omega) (by omega)]; exact w8 i j hi hj hij
theorem mi_pays {r : Nat → Nat} {h : mm_H} (hR : mk_MR r h) {p s : Nat} (hp : p < 6) : mk_ok (f_M_pays (Int32.ofNat p) (Int32.ofNat s) h) (fun v => mk_ch (fun c => c = 301) h v ∧ mk_MR (mk_pay r p s) v) := by
  have r7 := hR 77 (by omega)
  have r8 := hR 78 (by omega)
  unfold f_M_pays
  simp (disch := omega) only [mm_let, mn_shl, mp_I1]
  refine mk_ok.ret ⟨(mk_ch.pI (D := fun c => c = 301) rfl).tr (mk_ch.pI (D := fun c => c = 301) rfl) (fun _ q => q) (fun _ q => q), fun j hj => ?_⟩
  have rj := hR j hj
  unfold mk_pay
  simp only [mp_I1, true_and, r7, r8, mn_or, rj]
  by_cases j8 : j = 78
  · subst j8
    rw [if_pos rfl, if_neg (by decide), if_neg (by decide), if_pos rfl]
    simp [mn_or]
  · rw [if_neg j8]
    by_cases j7 : j = 77
    · subst j7; rw [if_pos rfl, if_pos rfl]
    · rw [if_neg j7, if_neg j7, if_neg j8]
theorem mx_take {A : mk_A} {a : Nat} {r : Nat → Nat} {h : mm_H} (hT : mk_T A) (hS : mk_XS A a r h) {p s : Nat} (hp : p < A 263 0) : mk_ok (f_St_take a (Int32.ofNat p) (Int32.ofNat s) h) (fun v => mk_ch (fun c => c = a) h v ∧ mk_XS A a (mk_pay r p s) v ∧ v.2 = h.2 ∧ (∀ c j, ¬ c = a → v.1 c j = h.1 c j)) := by
  have hP := hT.1.1
  have hS1 := hT.1.2.1
  obtain ⟨s0, s1, s2, s3, s4, s5, s6, s7⟩ := hS
  have n : ∀ j, ¬ j = 77 → ¬ j = 78 → mk_pay r p s j = r j := fun j h1 h2 => by unfold mk_pay; rw [if_neg h1, if_neg h2]
  unfold f_St_take
  rw [if_pos s0]
  simp (disch := omega) only [mm_let, mn_shl]
  have v1 : ∀ c j, (mm_pI (mm_pI h a 7 (h.1 a 7 ||| Int32.ofNat (2 ^ p))) a 6 ((mm_pI h a 7 (h.1 a 7 ||| Int32.ofNat (2 ^ p))).1 a 6 ||| Int32.ofNat s)).1 c j = if c = a ∧ j = 6 then h.1 a 6 ||| Int32.ofNat s else if c = a ∧ j = 7 then h.1 a 7 ||| Int32.ofNat (2 ^ p) else h.1 c j := fun c j => by
    simp only [mp_I1]
    rfl
  refine mk_ok.ret ⟨(mk_ch.pI (D := fun c => c = a) rfl).tr (mk_ch.pI (D := fun c => c = a) rfl) (fun _ q => q) (fun _ q => q), ⟨s0, fun i hi => ?_, fun i hi => ?_, ?_, ?_, ?_, ?_, ?_⟩, rfl, fun c j hc => by rw [v1, if_neg (fun q => hc q.1), if_neg (fun q => hc q.1)]⟩
  · rw [v1, if_neg (by omega), if_neg (by omega), n _ (by omega) (by omega)]; exact s1 i hi
  · rw [v1, v1, if_neg (by omega), if_neg (by omega), if_neg (by omega), if_neg (by omega), n _ (by omega) (by omega), n _ (by omega) (by omega)]; exact s2 i hi
  · rw [v1, if_neg (by omega), if_neg (by omega), n _ (by omega) (by omega)]; exact s3
  · rw [v1, if_pos ⟨rfl, rfl⟩, s4, mn_or]; rfl
  · rw [v1, if_neg (by omega), if_pos ⟨rfl, rfl⟩, s5, mn_or]; rfl
  · rw [v1, if_neg (by omega), if_neg (by omega), n _ (by omega) (by omega)]; exact s6
  · rw [v1, if_neg (by omega), if_neg (by omega), n _ (by omega) (by omega)]; exact s7
