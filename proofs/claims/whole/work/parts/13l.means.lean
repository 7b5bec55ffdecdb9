def mk_d0 (A : mk_A) (k N s : Nat) : Nat := if s < 2 ^ A 263 0 then mk_nts A k N s else 0
theorem mk_d0_le {A : mk_A} {k N s : Nat} : mk_d0 A k N s ≤ 1000000 := by
  unfold mk_d0
  split
  · exact mk_nts_le (by assumption)
  · omega
theorem mi_nights {A : mk_A} {E : mk_E} {r : Nat → Nat} {x N : Nat} {h : mm_H} (hT : mk_T A) (hW : mk_W A r) (hM : mk_MT A E h) (hR : mk_MR r h) (hx : x < A 263 1) (hN : N ≤ 30) : mk_ok (f_M_nights (Int32.ofNat x) (Int32.ofNat N) h) (fun v => mk_ch (fun c => 310 ≤ c ∧ c ≤ 312) h v ∧ ∀ s, s < 64 → v.1 310 s = Int32.ofNat (mk_d0 A (r x) N s)) := by
  have hP := hT.1.1
  have hS1 := hT.1.2.1
  have h64 := mk_pow6 hP
  have rx := hW.1 x hx
  unfold f_M_nights
  refine mk_ok.bind (mk_ok.for (ρ := mm_H) 64 (fun i (s : Int32 × mm_H) => s.1 = Int32.ofNat i ∧ mk_ch (fun c => 310 ≤ c ∧ c ≤ 312) h s.2 ∧ ∀ j, j < i → s.2.1 310 j = 0) (Q := fun v : mm_H => mk_ch (fun c => 310 ≤ c ∧ c ≤ 312) h v ∧ ∀ j, j < 64 → v.1 310 j = 0) ⟨rfl, mk_ch.rf, fun j hj => absurd hj (by omega)⟩ (fun i s hi ⟨e1, q1, q2⟩ => ?_) (fun s ⟨e1, q1, q2⟩ => ?_)) (fun v4 ⟨a1, a2⟩ => ?_)
  · rw [e1, if_neg (fun z => absurd ((mn_lle (b := 64) (show i < 2147483648 by omega) (by decide)).mp z) (show ¬ 64 ≤ i by omega))]
    refine mk_ok.bs (mn_ix hi (by omega)) ?_
    refine mk_ok.let ?_
    refine mk_ok.let ?_
    rw [mn_addl 1]
    refine mk_ok.inl ⟨rfl, q1.tr (mk_ch.pI (D := fun c => 310 ≤ c ∧ c ≤ 312) (by omega)) (fun _ z => z) (fun _ z => z), fun j hj => ?_⟩
    rw [mp_I1]
    by_cases e : j = i
    · rw [if_pos ⟨rfl, e⟩]
    · rw [if_neg (fun z => e z.2)]; exact q2 j (by omega)
  · rw [e1, if_pos (by decide)]
    exact mk_ok.inr ⟨q1, q2⟩
  refine mk_ok.bs (mn_ix (show x < 123 by omega) (by omega)) ?_
  rw [a1.e1 (c := 301) (by omega), hR x (by omega)]
  refine mk_ok.bs (mn_ix (show r x < 64 by omega) (by omega)) ?_
  refine mk_ok.let ?_
  have k5 : mk_ch (fun c => 310 ≤ c ∧ c ≤ 312) h (mm_pI v4 310 (r x) 1000000) := a1.tr (mk_ch.pI (D := fun c => 310 ≤ c ∧ c ≤ 312) (by omega)) (fun _ z => z) (fun _ z => z)
  have s5 : ∀ s, s < 64 → (mm_pI v4 310 (r x) 1000000).1 310 s = Int32.ofNat (if s < 2 ^ A 263 0 then mk_nts A (r x) 0 s else 0) := fun s hs => by
    rw [mp_I1]
    show _ = Int32.ofNat (if s < 2 ^ A 263 0 then (if s = r x then 1000000 else 0) else 0)
    by_cases e : s = r x
    · rw [if_pos ⟨rfl, e⟩, if_pos (by omega), if_pos e]; rfl
    · rw [if_neg (fun z => e z.2), if_neg e, a2 s hs]; split <;> rfl
  generalize mm_pI v4 310 (r x) 1000000 = h5 at k5 s5 ⊢
  refine mk_ok.bind (mk_ok.for (ρ := mm_H) N (fun i (s : Int32 × mm_H) => s.1 = Int32.ofNat i ∧ mk_ch (fun c => 310 ≤ c ∧ c ≤ 312) h s.2 ∧ ∀ s', s' < 64 → s.2.1 310 s' = Int32.ofNat (if s' < 2 ^ A 263 0 then mk_nts A (r x) i s' else 0)) (Q := fun v : mm_H => mk_ch (fun c => 310 ≤ c ∧ c ≤ 312) h v ∧ ∀ s, s < 64 → v.1 310 s = Int32.ofNat (mk_d0 A (r x) N s)) ⟨rfl, k5, s5⟩ (fun i s hi ⟨e1, q1, q2⟩ => ?_) (fun s ⟨e1, q1, q2⟩ => ?_)) (fun v q => mk_ok.ret q)
  · rw [e1, if_neg (fun z => absurd ((mn_le (by omega) (by omega)).mp z) (show ¬ N ≤ i by omega))]
    refine mk_ok.bind (mi_night hT (hM.ch q1 (fun c z => by omega)) mk_nts_b q2) (fun v14 ⟨g1, g2⟩ => ?_)
    refine mk_ok.let ?_
    rw [mn_addl 1]
    exact mk_ok.inl ⟨rfl, q1.tr g1 (fun _ z => z) (fun _ z => z), g2⟩
  · rw [e1, if_pos (Int32.le_refl _)]
    exact mk_ok.inr ⟨q1, q2⟩
theorem mk_mean_64 {A : mk_A} {E : mk_E} {r : Nat → Nat} {x N : Nat} (hP : A 263 0 ≤ 6) : mk_sum (fun s => mk_d0 A (r x) N s * mk_b A E r x (mk_kn A s)) 64 = mk_mean A E r x N := by
  rw [mk_sum_more (n := 2 ^ A 263 0) (mk_pow6 hP) (fun i h1 h2 => by unfold mk_d0; rw [if_neg (by omega), Nat.zero_mul])]
  exact mk_sum_congr (fun i hi => by unfold mk_d0; rw [if_pos hi])
theorem mk_hold_64 {A : mk_A} {E : mk_E} {r : Nat → Nat} {x N : Nat} (hP : A 263 0 ≤ 6) : mk_sum (fun s => if mk_b A E r x (mk_kn A s) < mk_b A E r x (mk_kn A (r x)) then 0 else mk_d0 A (r x) N s) 64 = mk_hold A E r x N := by
  rw [mk_sum_more (n := 2 ^ A 263 0) (mk_pow6 hP) (fun i h1 h2 => by unfold mk_d0; rw [if_neg (show ¬ i < 2 ^ A 263 0 by omega)]; split <;> rfl)]
  exact mk_sum_congr (fun i hi => by unfold mk_d0; rw [if_pos hi])
theorem mc_mean (x1 x2 : Int32) : mk_call (f_X_mean x1 x2) (f_M_mean x1 x2) := by
  refine mk_callof (fun A E t r u hw => ?_)
  have hT := hw.1
  have hW := hw.2.1
  have hP := hT.1.1
  have hS1 := hT.1.2.1
  by_cases hs : mk_is (A 263 1) x1 ∧ 0 ≤ x2 ∧ x2 ≤ 30
  · obtain ⟨hs, hr⟩ := hs
    obtain ⟨x, hx, rfl⟩ := id hs
    obtain ⟨N, hN, rfl⟩ := mk_upto (n := 30) (by omega) hr
    refine ⟨Int64.toInt32 (Int64.ofNat (mk_mean A E r x N) / 1000), r, u, t, hw, fun h hX => ?_, fun h hM => ?_⟩
    · unfold f_X_mean
      refine mk_ok.bind (mx_passNights hw hX hx hN) (fun v2 ⟨a1, a2, a3, a4, a5⟩ => ?_)
      rw [a1, if_neg (show ¬ (1 : Int32) = 0 by decide)]
      refine mk_ok.bs (mx_gT a2.1.1 a2.2.1.1) ?_
      refine mk_ok.bs (mx_expected hT a2.2.1 hx a4 a5) ?_
      exact mk_ok.ret ⟨rfl, a2, a3⟩
    · unfold f_M_mean
      refine mk_ok.let ?_
      have p0 : mk_s2m h (mm_pI h 261 0 0) := mk_s2m.pI ⟨by decide, by decide⟩
      have hM1 := hM.s2 p0
      revert p0 hM1
      generalize mm_pI h 261 0 0 = h1
      intro p0 hM1
      rw [mi_isSecret hT hM1.1, if_pos hs]
      refine mk_ok.bs rfl ?_
      rw [if_neg (show ¬ (1 : Int32) = 0 by decide)]
      refine mk_ok.bs (mp_within _ _ _) ?_
      rw [if_pos hr, if_neg (show ¬ (1 : Int32) = 0 by decide)]
      refine mk_ok.bind (mi_nights hT hW hM1.1 hM1.2.1 hx hN) (fun v8 ⟨a1, a2⟩ => ?_)
      have p1 : mk_s2m h1 v8 := mk_s2m.of a1 (fun c z => by unfold mk_sm; omega)
      have M8 := hM1.s2 p1
      refine mk_ok.bind (mk_ok.for (ρ := Int64 × mm_H) 64 (fun i (s : Int64 × Int32 × mm_H) => s.2.1 = Int32.ofNat i ∧ s.1 = Int64.ofNat (mk_sum (fun s => mk_d0 A (r x) N s * mk_b A E r x (mk_kn A s)) i) ∧ mk_ch mk_DM v8 s.2.2) (Q := fun v : Int64 × mm_H => v.1 = Int64.ofNat (mk_mean A E r x N) ∧ mk_ch mk_DM v8 v.2) ⟨rfl, rfl, mk_ch.rf⟩ (fun i s hi ⟨e1, e2, q1⟩ => ?_) (fun s ⟨e1, e2, q1⟩ => ?_)) (fun v12 ⟨b1, b2⟩ => ?_)
      · have dl := mk_d0_le (A := A) (k := r x) (N := N) (s := i)
        have bl := mk_b_le (E := E) (r := r) (n := mk_kn A i) hT hx
        have M' := (M8.DM q1).1
        have e310 : s.2.2.1 310 i = Int32.ofNat (mk_d0 A (r x) N i) := by rw [q1.e1 (fun z => by unfold mk_DM at z; omega)]; exact a2 i hi
        have en : mk_sum (fun s => mk_d0 A (r x) N s * mk_b A E r x (mk_kn A s)) (i + 1) = mk_sum (fun s => mk_d0 A (r x) N s * mk_b A E r x (mk_kn A s)) i + mk_d0 A (r x) N i * mk_b A E r x (mk_kn A i) := rfl
        rw [e1, if_neg (fun z => absurd ((mn_lle (b := 64) (show i < 2147483648 by omega) (by decide)).mp z) (show ¬ 64 ≤ i by omega)), mk_bs (mn_ix hi (by omega)), mk_bs (mn_ix hi (by omega)), e310, en]
        refine mk_ok.bind (Q := fun v : Int64 × mm_H => v.1 = Int64.ofNat (mk_sum (fun s => mk_d0 A (r x) N s * mk_b A E r x (mk_kn A s)) i + mk_d0 A (r x) N i * mk_b A E r x (mk_kn A i)) ∧ mk_ch mk_DM v8 v.2) ?_ (fun v q => ?_)
        · by_cases z : mk_d0 A (r x) N i = 0
          · rw [if_pos ((mn_lel (b := 0) (show mk_d0 A (r x) N i < 2147483648 by omega) (by decide)).mpr (show mk_d0 A (r x) N i ≤ 0 by omega)), z, Nat.zero_mul, Nat.add_zero]
            exact mk_ok.ret ⟨e2, q1⟩
          · rw [if_neg (fun y => absurd ((mn_lel (b := 0) (show mk_d0 A (r x) N i < 2147483648 by omega) (by decide)).mp y) (show ¬ mk_d0 A (r x) N i ≤ 0 by omega))]
            refine mk_ok.bind (mi_baseOf hT M'.1 M'.2.1 hx (show i < 2147483648 by omega)) (fun v22 ⟨g1, g2⟩ => ?_)
            rw [g1, mn_3264 (by omega), mn_3264 (by omega), e2, mn_mul64, mn_ladd64]
            exact mk_ok.let (mk_ok.ret ⟨rfl, q1.tr g2 (fun _ z => z) (fun _ z => z)⟩)
        · refine mk_ok.let ?_
          rw [mn_addl 1]
          exact mk_ok.inl ⟨rfl, q.1, q.2⟩
      · rw [e1, if_pos (by decide)]
        exact mk_ok.inr ⟨by rw [← mk_mean_64 hP]; exact e2, q1⟩
      obtain ⟨d1, d2⟩ := M8.DM b2
      rw [b1]
      exact mk_ok.ret ⟨rfl, d1, ((mk_fX.s2 p0).tr (mk_fX.s2 p1)).tr d2⟩
  · refine ⟨-1, r, u, t, hw, fun h hX => ?_, fun h hM => ?_⟩
    · unfold f_X_mean
      refine mk_ok.bs (v := (0, h)) ?_ ?_
      · unfold f_X_passNights
        rw [mk_bs (mx_gT hX.1.1 hX.2.1.1), mx_hasSecret hT hX.2.1]
        by_cases q : mk_is (A 263 1) x1
        · rw [if_pos q]
          rw [mk_bs (show (some (1 : Int32) : Option Int32) = some 1 from rfl), if_neg (show ¬ (1 : Int32) = 0 by decide)]
          by_cases h0 : x2 < 0
          · rw [if_pos h0]
          · rw [if_neg h0, if_neg (fun z => hs ⟨q, Int32.not_lt.mp h0, z⟩)]
        · rw [if_neg q]; rfl
      · dsimp only
        rw [if_pos rfl]
        exact mk_ok.ret ⟨rfl, hX, mk_fM.rf⟩
    · unfold f_M_mean
      refine mk_ok.let ?_
      have p0 : mk_s2m h (mm_pI h 261 0 0) := mk_s2m.pI ⟨by decide, by decide⟩
      have hM1 := hM.s2 p0
      revert p0 hM1
      generalize mm_pI h 261 0 0 = h1
      intro p0 hM1
      rw [mi_isSecret hT hM1.1]
      by_cases q : mk_is (A 263 1) x1
      · rw [if_pos q]
        refine mk_ok.bs rfl ?_
        rw [if_neg (show ¬ (1 : Int32) = 0 by decide)]
        refine mk_ok.bs (mp_within _ _ _) ?_
        rw [if_neg (fun z => hs ⟨q, z⟩), if_pos rfl]
        exact mk_ok.ret ⟨rfl, hM1, mk_fX.s2 p0⟩
      · rw [if_neg q]
        refine mk_ok.bs rfl ?_
        rw [if_pos rfl]
        exact mk_ok.ret ⟨rfl, hM1, mk_fX.s2 p0⟩
