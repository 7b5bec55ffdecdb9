theorem mn_lg0 {d : Nat} (hd : d ≤ 1000000) : (lg_cmp (Int64.ofNat d) 0 ≤ 0) ↔ d = 0 := by
  unfold lg_cmp
  by_cases z : d = 0
  · subst z
    exact ⟨fun _ => rfl, fun _ => by decide⟩
  · have g : Int64.ofNat d > 0 := by
      show (0 : Int64) < Int64.ofNat d
      rw [Int64.lt_iff_toInt_lt, Int64.toInt_ofNat_of_lt (by omega)]
      have : (0 : Int64).toInt = 0 := by decide
      rw [this]; omega
    rw [if_pos g]
    exact ⟨fun q => absurd q (by decide), fun q => absurd q z⟩
theorem mk_t72 : (mm_tg 72 = 21 ∧ mm_ln 72 = 64) ∧ (mm_tg 73 = 21 ∧ mm_ln 73 = 64) := by decide +kernel
theorem mx_passOne {A : mk_A} {E : mk_E} {t : Nat} {d : Nat → Nat} {h : mm_H} (hT : mk_T A) (hX : mk_XT A E t h) (hd : ∀ s, s < 2 ^ A 263 0 → d s ≤ 1000000) (h72 : ∀ s, s < 2 ^ A 263 0 → h.2.1 72 s = Int64.ofNat (d s)) : mk_ok (f_Ni_passOne t h) (fun v => mk_ch (fun c => 72 ≤ c ∧ c ≤ 74) h v ∧ ∀ s, s < 2 ^ A 263 0 → v.2.1 72 s = Int64.ofNat (mk_nt A d s)) := by
  have hP := hT.1.1
  have h64 := mk_pow6 hP
  have ht := hX.1
  unfold f_Ni_passOne
  rw [if_pos (mk_tt ht).1, hX.2.1.1, mn_pow (by omega)]
  refine mk_ok.let ?_
  refine mk_ok.bind (mx_fillL (n := 64) mk_t72.2 (by omega)) (fun v4 ⟨f1, f2, f3⟩ => ?_)
  have k4 : mk_ch (fun c => c = 73 ∨ c = 74) h v4 := ⟨fun c hc => ⟨by rw [f1], funext fun j => by rw [f3, if_neg (fun z => hc (Or.inl z.1))]⟩, f2⟩
  refine mk_ok.bind (mk_ok.for (ρ := mm_H) (2 ^ A 263 0) (fun i (s : Int32 × mm_H) => s.1 = Int32.ofNat i ∧ mk_ch (fun c => c = 73 ∨ c = 74) h s.2 ∧ ∀ T, T < 2 ^ A 263 0 → s.2.2.1 73 T = Int64.ofNat (mk_sum (mk_tm A d T) i)) (Q := fun v : mm_H => mk_ch (fun c => c = 73 ∨ c = 74) h v ∧ ∀ T, T < 2 ^ A 263 0 → v.2.1 73 T = Int64.ofNat (mk_nt A d T)) ⟨rfl, k4, fun T hTT => by rw [f3, if_pos ⟨rfl, by omega⟩]; rfl⟩ (fun i s hi ⟨e1, q1, q2⟩ => ?_) (fun s ⟨e1, q1, q2⟩ => ?_)) (fun v8 ⟨b1, b2⟩ => ?_)
  · have X' := hX.ch q1 (fun c z => by omega)
    have e72 : s.2.2.1 72 i = Int64.ofNat (d i) := by rw [q1.e2 (by omega)]; exact h72 i hi
    rw [e1, if_neg (fun z => absurd ((mn_le (by omega) (by omega)).mp z) (show ¬ 2 ^ A 263 0 ≤ i by omega)), mk_bs (mn_ix (show i < 64 by omega) (by omega)), e72]
    refine mk_ok.bind (Q := fun v : mm_H => mk_ch (fun c => c = 73 ∨ c = 74) h v ∧ ∀ T, T < 2 ^ A 263 0 → v.2.1 73 T = Int64.ofNat (mk_sum (mk_tm A d T) (i + 1))) ?_ (fun v q => ?_)
    · by_cases z : d i = 0
      · rw [if_pos ((mn_lg0 (hd i hi)).mpr z)]
        refine mk_ok.ret ⟨q1, fun T hTT => ?_⟩
        have : mk_tm A d T i = 0 := by
          unfold mk_tm
          rw [z, Nat.mul_zero, Nat.zero_div]
          split <;> rfl
        show _ = Int64.ofNat (mk_sum (mk_tm A d T) i + mk_tm A d T i)
        rw [this, Nat.add_zero]; exact q2 T hTT
      · rw [if_neg (fun y => z ((mn_lg0 (hd i hi)).mp y))]
        refine mk_ok.bind (mx_listen hT X' hi) (fun v16 ⟨c1, c2⟩ => ?_)
        have X2 := X'.ch c1 (fun c z => by omega)
        refine mk_ok.bind (mx_spread (d := d) hT X2 hi (hd i hi) (by rw [c1.e2 (by omega)]; exact e72) c2 (fun T hTT => by rw [c1.e2 (by omega)]; exact q2 T hTT)) (fun v18 ⟨g1, g2⟩ => ?_)
        exact mk_ok.ret ⟨(q1.tr c1 (fun _ z => z) (fun c z => Or.inr z)).tr g1 (fun _ z => z) (fun c z => Or.inl z), g2⟩
    · refine mk_ok.let ?_
      rw [mn_addl 1]
      exact mk_ok.inl ⟨rfl, q⟩
  · rw [e1, if_pos (Int32.le_refl _)]
    exact mk_ok.inr ⟨q1, q2⟩
  refine mk_ok.let (mk_ok.ret ⟨⟨fun c hc => ⟨?_, ?_⟩, ?_⟩, fun s hs => ?_⟩)
  · rw [mp_d1, b1.e1 (by omega)]
  · funext j
    rw [mp_d2, if_neg (by omega), b1.e2 (by omega)]
  · rw [mp_d3, b1.2]
  · rw [mp_d2, if_pos ⟨rfl, by omega⟩]; exact b2 s hs
theorem mk_nts_b {A : mk_A} {k n : Nat} : ∀ s, s < 2 ^ A 263 0 → mk_nts A k n s ≤ 1000000 := fun _ hs => mk_nts_le hs
theorem mx_pass {A : mk_A} {E : mk_E} {t k N : Nat} {h : mm_H} (hT : mk_T A) (hX : mk_XT A E t h) (hk : k < 2 ^ A 263 0) (hN : N ≤ 30) : mk_ok (f_Ni_pass t (Int32.ofNat k) (Int32.ofNat N) h) (fun v => mk_ch (fun c => 72 ≤ c ∧ c ≤ 74) h v ∧ ∀ s, s < 2 ^ A 263 0 → v.2.1 72 s = Int64.ofNat (mk_nts A k N s)) := by
  have hP := hT.1.1
  have h64 := mk_pow6 hP
  have ht := hX.1
  unfold f_Ni_pass
  rw [if_pos (mk_tt ht).1]
  refine mk_ok.bind (mx_fillL (n := 64) mk_t72.1 (by omega)) (fun v2 ⟨f1, f2, f3⟩ => ?_)
  have k2 : mk_ch (fun c => 72 ≤ c ∧ c ≤ 74) h v2 := ⟨fun c hc => ⟨by rw [f1], funext fun j => by rw [f3, if_neg (fun z => hc (by omega))]⟩, f2⟩
  refine mk_ok.bs (mn_ix (show k < 64 by omega) (by omega)) ?_
  refine mk_ok.let ?_
  have k5 : mk_ch (fun c => 72 ≤ c ∧ c ≤ 74) h (mm_pL v2 72 k 1000000) := k2.tr (mk_ch.pL (D := fun c => 72 ≤ c ∧ c ≤ 74) (by omega)) (fun _ z => z) (fun _ z => z)
  have s5 : ∀ s, s < 2 ^ A 263 0 → (mm_pL v2 72 k 1000000).2.1 72 s = Int64.ofNat (mk_nts A k 0 s) := fun s hs => by
    rw [mp_L2]
    show _ = Int64.ofNat (if s = k then 1000000 else 0)
    by_cases e : s = k
    · rw [if_pos ⟨rfl, e⟩, if_pos e]; rfl
    · rw [if_neg (fun z => e z.2), if_neg e, f3, if_pos ⟨rfl, by omega⟩]; rfl
  generalize mm_pL v2 72 k 1000000 = h5 at k5 s5 ⊢
  refine mk_ok.bind (mk_ok.for (ρ := mm_H) N (fun i (s : Int32 × mm_H) => s.1 = Int32.ofNat i ∧ mk_ch (fun c => 72 ≤ c ∧ c ≤ 74) h s.2 ∧ ∀ x, x < 2 ^ A 263 0 → s.2.2.1 72 x = Int64.ofNat (mk_nts A k i x)) (Q := fun v : mm_H => mk_ch (fun c => 72 ≤ c ∧ c ≤ 74) h v ∧ ∀ s, s < 2 ^ A 263 0 → v.2.1 72 s = Int64.ofNat (mk_nts A k N s)) ⟨rfl, k5, s5⟩ (fun i s hi ⟨e1, q1, q2⟩ => ?_) (fun s ⟨e1, q1, q2⟩ => ?_)) (fun v q => mk_ok.ret q)
  · rw [e1, if_neg (fun z => absurd ((mn_le (by omega) (by omega)).mp z) (show ¬ N ≤ i by omega))]
    refine mk_ok.bind (mx_passOne hT (hX.ch q1 (fun c z => by omega)) mk_nts_b q2) (fun v14 ⟨g1, g2⟩ => ?_)
    refine mk_ok.let ?_
    rw [mn_addl 1]
    exact mk_ok.inl ⟨rfl, q1.tr g1 (fun _ z => z) (fun _ z => z), g2⟩
  · rw [e1, if_pos (Int32.le_refl _)]
    exact mk_ok.inr ⟨q1, q2⟩
