/-! mean, holds: the class's side -/
def mk_mean (A : mk_A) (E : mk_E) (r : Nat → Nat) (x N : Nat) : Nat := mk_sum (fun s => mk_nts A (r x) N s * mk_b A E r x (mk_kn A s)) (2 ^ A 263 0)
def mk_hold (A : mk_A) (E : mk_E) (r : Nat → Nat) (x N : Nat) : Nat := mk_sum (fun s => if mk_b A E r x (mk_kn A s) < mk_b A E r x (mk_kn A (r x)) then 0 else mk_nts A (r x) N s) (2 ^ A 263 0)
theorem mk_b_le {A : mk_A} {E : mk_E} {r : Nat → Nat} (hT : mk_T A) {x n : Nat} (hx : x < A 263 1) : mk_b A E r x n ≤ 999 := mk_base_le (hT.2.2.1 x hx).2.2.2.1
theorem mx_weighCounts {A : mk_A} {E : mk_E} {t x : Nat} {r : Nat → Nat} {h : mm_H} (hT : mk_T A) (hX : mk_XT A E t h) (hS : mk_XS A 35 r h) (hx : x < A 263 1) : mk_ok (f_Ni_weighCounts t 35 (Int32.ofNat x) h) (fun v => mk_ch (fun c => c = 75 ∨ c = t + 16) h v ∧ ∀ n, n ≤ A 263 0 → v.1 75 n = Int32.ofNat (mk_b A E r x n)) := by
  have hP := hT.1.1
  have ht := hX.1
  unfold f_Ni_weighCounts
  rw [if_pos ⟨(mk_tt ht).1, mk_ftags.2.2.2.2.2.2.1⟩]
  refine mk_ok.bind (mk_ok.for (ρ := mm_H) (A 263 0 + 1) (fun i (s : Int32 × mm_H) => s.1 = Int32.ofNat i ∧ mk_ch (fun c => c = 75 ∨ c = t + 16) h s.2 ∧ ∀ n, n < i → s.2.1 75 n = Int32.ofNat (mk_b A E r x n)) (Q := fun v : mm_H => mk_ch (fun c => c = 75 ∨ c = t + 16) h v ∧ ∀ n, n ≤ A 263 0 → v.1 75 n = Int32.ofNat (mk_b A E r x n)) ⟨rfl, mk_ch.rf, fun n hn => absurd hn (by omega)⟩ (fun i s hi ⟨e1, q1, q2⟩ => ?_) (fun s ⟨e1, q1, q2⟩ => ?_)) (fun v q => mk_ok.ret q)
  · have X' := hX.ch q1 (fun c z => by omega)
    have S' := hS.ch q1 (fun c z => by omega)
    rw [X'.2.1.1, e1, if_neg (fun z => absurd ((mn_lt (by omega) (by omega)).mp z) (show ¬ A 263 0 < i by omega))]
    refine mk_ok.bind (mx_lawWorth hT X' S' hx (show i ≤ 10 by omega)) (fun v8 ⟨g1, g2⟩ => ?_)
    refine mk_ok.bs (mn_ix (show i < 7 by omega) (by omega)) ?_
    refine mk_ok.let ?_
    refine mk_ok.let ?_
    rw [mn_addl 1, g1]
    refine mk_ok.inl ⟨rfl, (q1.tr g2 (fun _ z => z) (fun c z => Or.inr z)).tr (mk_ch.pI (D := fun c => c = 75 ∨ c = t + 16) (Or.inl rfl)) (fun _ z => z) (fun _ z => z), fun n hn => ?_⟩
    rw [mp_I1]
    by_cases e : n = i
    · rw [if_pos ⟨rfl, e⟩, e]
    · rw [if_neg (fun z => e z.2), g2.e1 (by omega)]; exact q2 n (by omega)
  · have X' := hX.ch q1 (fun c z => by omega)
    rw [X'.2.1.1, e1, if_pos ((mn_lt (by omega) (by omega)).mpr (by omega))]
    exact mk_ok.inr ⟨q1, fun n hn => q2 n (by omega)⟩
theorem mx_expected {A : mk_A} {E : mk_E} {t x N : Nat} {r : Nat → Nat} {h : mm_H} (hT : mk_T A) (hX : mk_XT A E t h) (hx : x < A 263 1) (h72 : ∀ s, s < 2 ^ A 263 0 → h.2.1 72 s = Int64.ofNat (mk_nts A (r x) N s)) (h75 : ∀ n, n ≤ A 263 0 → h.1 75 n = Int32.ofNat (mk_b A E r x n)) : f_Ni_expected t h = some (Int64.ofNat (mk_mean A E r x N)) := by
  have hP := hT.1.1
  have h64 := mk_pow6 hP
  have L : mk_ok (f_Ni_expected t h) (fun v => v = Int64.ofNat (mk_mean A E r x N)) := by
    unfold f_Ni_expected
    rw [if_pos (mk_tt hX.1).1]
    refine mk_ok.bind (mk_ok.for (ρ := Int64) (2 ^ A 263 0) (fun i (s : Int64 × Int32) => s.2 = Int32.ofNat i ∧ s.1 = Int64.ofNat (mk_sum (fun s => mk_nts A (r x) N s * mk_b A E r x (mk_kn A s)) i)) (Q := fun v => v = Int64.ofNat (mk_mean A E r x N)) ⟨rfl, rfl⟩ (fun i s hi ⟨e1, e2⟩ => ?_) (fun s ⟨e1, e2⟩ => ?_)) (fun v q => mk_ok.ret q)
    · have kl := mk_kn_le (A := A) (s := i)
      have bl := mk_b_le (E := E) (r := r) (n := mk_kn A i) hT hx
      rw [hX.2.1.1, mn_pow (by omega), e1, if_neg (fun z => absurd ((mn_le (by omega) (by omega)).mp z) (show ¬ 2 ^ A 263 0 ≤ i by omega)), mk_bs (mn_ix (show i < 64 by omega) (by omega)), mk_bs (mx_knowers hT hX hi), mk_bs (mn_ix (show mk_kn A i < 7 by omega) (by omega)), h72 i hi, h75 _ kl, mn_3264 (by omega), mn_mul64, e2, mn_ladd64]
      refine mk_ok.let ?_
      refine mk_ok.let ?_
      rw [mn_addl 1]
      exact mk_ok.inl ⟨rfl, rfl⟩
    · rw [hX.2.1.1, mn_pow (by omega), e1, if_pos (Int32.le_refl _)]
      exact mk_ok.inr e2
  obtain ⟨v, e, q⟩ := L
  rw [e, q]
theorem mx_surety {A : mk_A} {E : mk_E} {t x N : Nat} {r : Nat → Nat} {h : mm_H} (hT : mk_T A) (hW : mk_W A r) (hX : mk_XT A E t h) (hx : x < A 263 1) (h72 : ∀ s, s < 2 ^ A 263 0 → h.2.1 72 s = Int64.ofNat (mk_nts A (r x) N s)) (h75 : ∀ n, n ≤ A 263 0 → h.1 75 n = Int32.ofNat (mk_b A E r x n)) : f_Ni_surety t (Int32.ofNat (r x)) h = some (Int64.ofNat (mk_hold A E r x N)) := by
  have hP := hT.1.1
  have h64 := mk_pow6 hP
  have k0 := mk_kn_le (A := A) (s := r x)
  have b0 := mk_b_le (E := E) (r := r) (n := mk_kn A (r x)) hT hx
  have L : mk_ok (f_Ni_surety t (Int32.ofNat (r x)) h) (fun v => v = Int64.ofNat (mk_hold A E r x N)) := by
    unfold f_Ni_surety
    rw [if_pos (mk_tt hX.1).1, mk_bs (mx_knowers hT hX (hW.1 x hx)), mk_bs (mn_ix (show mk_kn A (r x) < 7 by omega) (by omega)), h75 _ k0]
    refine mk_ok.let ?_
    refine mk_ok.bind (mk_ok.for (ρ := Int64) (2 ^ A 263 0) (fun i (s : Int64 × Int32) => s.2 = Int32.ofNat i ∧ s.1 = Int64.ofNat (mk_sum (fun s => if mk_b A E r x (mk_kn A s) < mk_b A E r x (mk_kn A (r x)) then 0 else mk_nts A (r x) N s) i)) (Q := fun v => v = Int64.ofNat (mk_hold A E r x N)) ⟨rfl, rfl⟩ (fun i s hi ⟨e1, e2⟩ => ?_) (fun s ⟨e1, e2⟩ => ?_)) (fun v q => mk_ok.ret q)
    · have kl := mk_kn_le (A := A) (s := i)
      have bl := mk_b_le (E := E) (r := r) (n := mk_kn A i) hT hx
      have en : mk_sum (fun s => if mk_b A E r x (mk_kn A s) < mk_b A E r x (mk_kn A (r x)) then 0 else mk_nts A (r x) N s) (i + 1) = mk_sum (fun s => if mk_b A E r x (mk_kn A s) < mk_b A E r x (mk_kn A (r x)) then 0 else mk_nts A (r x) N s) i + (if mk_b A E r x (mk_kn A i) < mk_b A E r x (mk_kn A (r x)) then 0 else mk_nts A (r x) N i) := rfl
      rw [hX.2.1.1, mn_pow (by omega), e1, if_neg (fun z => absurd ((mn_le (by omega) (by omega)).mp z) (show ¬ 2 ^ A 263 0 ≤ i by omega)), mk_bs (mx_knowers hT hX hi), mk_bs (mn_ix (show mk_kn A i < 7 by omega) (by omega)), h75 _ kl, e2, en]
      by_cases c : mk_b A E r x (mk_kn A i) < mk_b A E r x (mk_kn A (r x))
      · rw [if_pos ((mn_lt (by omega) (by omega)).mpr c), if_pos c, Nat.add_zero]
        refine mk_ok.bs rfl ?_
        refine mk_ok.let ?_
        rw [mn_addl 1]
        exact mk_ok.inl ⟨rfl, rfl⟩
      · rw [if_neg (fun z => c ((mn_lt (by omega) (by omega)).mp z)), if_neg c, mk_bs (mn_ix (show i < 64 by omega) (by omega)), h72 i hi, mn_ladd64]
        refine mk_ok.bs rfl ?_
        refine mk_ok.let ?_
        rw [mn_addl 1]
        exact mk_ok.inl ⟨rfl, rfl⟩
    · rw [hX.2.1.1, mn_pow (by omega), e1, if_pos (Int32.le_refl _)]
      exact mk_ok.inr e2
  obtain ⟨v, e, q⟩ := L
  rw [e, q]
theorem mx_passNights {A : mk_A} {E : mk_E} {t x N : Nat} {r : Nat → Nat} {u : mk_U} {h : mm_H} (hw : mk_wf A r u) (hX : mk_X A E t r u h) (hx : x < A 263 1) (hN : N ≤ 30) : mk_ok (f_X_passNights (Int32.ofNat x) (Int32.ofNat N) h) (fun v => v.1 = 1 ∧ mk_X A E t r u v.2 ∧ mk_fM h v.2 ∧ (∀ s, s < 2 ^ A 263 0 → v.2.2.1 72 s = Int64.ofNat (mk_nts A (r x) N s)) ∧ ∀ n, n ≤ A 263 0 → v.2.1 75 n = Int32.ofNat (mk_b A E r x n)) := by
  have hT := hw.1
  have hW := hw.2.1
  have hS1 := hT.1.2.1
  have ht := hX.2.1.1
  unfold f_X_passNights
  refine mk_ok.bs (mx_gT hX.1.1 ht) ?_
  rw [mx_hasSecret hT hX.2.1, if_pos ⟨x, hx, rfl⟩]
  refine mk_ok.bs rfl ?_
  rw [if_neg (show ¬ (1 : Int32) = 0 by decide), if_neg (Int32.not_lt.mpr ((mn_lle (b := 0) (show N < 2147483648 by omega) (by decide)).mpr (Nat.zero_le _))), if_pos ((mn_lel (b := 30) (show N < 2147483648 by omega) (by decide)).mpr hN)]
  refine mk_ok.bs (mx_gT hX.1.1 ht) ?_
  refine mk_ok.bs (mn_ix (show x < 10 by omega) (by omega)) ?_
  have er : h.1 36 x = Int32.ofNat (r x) := hX.2.2.1.1.2.1 x hx
  rw [er]
  refine mk_ok.bind (mx_pass hT hX.2.1 (hW.1 x hx) hN) (fun v10 ⟨a1, a2⟩ => ?_)
  have X10 : mk_X A E t r u v10 := hX.ch hw a1 (fun c z => by unfold mk_sx; omega)
  refine mk_ok.bs (mx_gT X10.1.1 ht) ?_
  refine mk_ok.bind (mx_weighCounts hT X10.2.1 X10.2.2.1.1 hx) (fun v14 ⟨b1, b2⟩ => ?_)
  have X14 : mk_X A E t r u v14 := X10.ch hw b1 (fun c z => by unfold mk_sx; omega)
  exact mk_ok.ret ⟨rfl, X14, (mk_fM.of a1 (fun c z => by omega)).tr (mk_fM.of b1 (fun c z => by omega)), fun s hs => by rw [b1.e2 (by omega)]; exact a2 s hs, b2⟩
