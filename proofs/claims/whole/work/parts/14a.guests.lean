/-! rests: the guests, in order, both sides -/
def mk_gu (G : Nat) : Nat → Nat → Nat
  | 0, _ => 0
  | n + 1, k => if (G.testBit n && decide (mk_cnt G.testBit n = k)) = true then n else mk_gu G n k
theorem mk_gu_old {G n k : Nat} (h : k < mk_cnt G.testBit n) : mk_gu G (n + 1) k = mk_gu G n k := by
  show (if (G.testBit n && decide (mk_cnt G.testBit n = k)) = true then n else mk_gu G n k) = _
  rw [decide_eq_false (show ¬ mk_cnt G.testBit n = k by omega), Bool.and_false, if_neg (by decide)]
theorem mk_gu_new {G n : Nat} (h : G.testBit n = true) : mk_gu G (n + 1) (mk_cnt G.testBit n) = n := by
  show (if (G.testBit n && decide (mk_cnt G.testBit n = mk_cnt G.testBit n)) = true then n else _) = _
  rw [h, decide_eq_true rfl, if_pos (by decide)]
theorem mk_cnt_up {f : Nat → Bool} {a : Nat} : ∀ b, a ≤ b → mk_cnt f a ≤ mk_cnt f b
  | 0, h => by rw [show a = 0 by omega]; exact Nat.le_refl _
  | b + 1, h => by
    by_cases e : a = b + 1
    · rw [e]; exact Nat.le_refl _
    · have := mk_cnt_up (f := f) b (show a ≤ b by omega)
      show _ ≤ mk_cnt f b + (f b).toNat
      omega
theorem mx_invite {A : mk_A} {E : mk_E} {t G : Nat} {r : Nat → Nat} {h : mm_H} (hT : mk_T A) (hW : mk_W A r) (hX : mk_XT A E t h) (hS : mk_XS A 35 r h) (hG : G < 2 ^ A 263 0) (h3 : mk_cnt G.testBit (A 263 0) ≤ 3) : mk_ok (f_Fe_invite t 35 (Int32.ofNat G) h) (fun v => mk_ch (fun c => c = 68 ∨ c = 69) h v ∧ v.1 68 2 = Int32.ofNat (mk_cnt G.testBit (A 263 0)) ∧ ∀ k, k < mk_cnt G.testBit (A 263 0) → v.1 69 k = Int32.ofNat (mk_kb A r (mk_gu G (A 263 0) k))) := by
  have hP := hT.1.1
  have h64 := mk_pow6 hP
  have ht := hX.1
  unfold f_Fe_invite
  rw [if_pos ⟨(mk_tt ht).1, mk_ftags.2.2.2.2.2.2.1⟩]
  refine mk_ok.let ?_
  refine mk_ok.bind (mk_ok.for (ρ := mm_H) (A 263 0) (fun i (s : Int32 × mm_H) => s.1 = Int32.ofNat i ∧ mk_ch (fun c => c = 68 ∨ c = 69) h s.2 ∧ s.2.1 68 2 = Int32.ofNat (mk_cnt G.testBit i) ∧ ∀ k, k < mk_cnt G.testBit i → s.2.1 69 k = Int32.ofNat (mk_kb A r (mk_gu G i k))) (Q := fun v : mm_H => mk_ch (fun c => c = 68 ∨ c = 69) h v ∧ v.1 68 2 = Int32.ofNat (mk_cnt G.testBit (A 263 0)) ∧ ∀ k, k < mk_cnt G.testBit (A 263 0) → v.1 69 k = Int32.ofNat (mk_kb A r (mk_gu G (A 263 0) k))) ⟨rfl, mk_ch.pI (Or.inl rfl), by show (mm_pI h 68 2 0).1 68 2 = _; rw [mp_I1, if_pos ⟨rfl, rfl⟩]; rfl, fun k hk => absurd hk (Nat.not_lt_zero k)⟩ (fun i s hi ⟨e1, q1, q2, q3⟩ => ?_) (fun s ⟨e1, q1, q2, q3⟩ => ?_)) (fun v q => mk_ok.ret q)
  · have X' := hX.ch q1 (fun c z => by omega)
    have S' := hS.ch q1 (fun c z => by omega)
    have cu := mk_cnt_up (f := G.testBit) (a := i + 1) (A 263 0) (by omega)
    have ce : mk_cnt G.testBit (i + 1) = mk_cnt G.testBit i + (G.testBit i).toNat := rfl
    rw [X'.2.1.1, e1, if_neg (fun z => absurd ((mn_le (by omega) (by omega)).mp z) (show ¬ A 263 0 ≤ i by omega)), mk_bs (mn_xbit (show G < 2147483648 by omega) (show i < 31 by omega))]
    refine mk_ok.bind (Q := fun v : mm_H => mk_ch (fun c => c = 68 ∨ c = 69) h v ∧ v.1 68 2 = Int32.ofNat (mk_cnt G.testBit (i + 1)) ∧ ∀ k, k < mk_cnt G.testBit (i + 1) → v.1 69 k = Int32.ofNat (mk_kb A r (mk_gu G (i + 1) k))) ?_ (fun v q => ?_)
    · cases c : G.testBit i
      · rw [c] at ce
        simp only [Bool.toNat_false, Nat.add_zero] at ce
        rw [if_neg (by decide), ce]
        exact mk_ok.ret ⟨q1, q2, fun k hk => by rw [mk_gu_old hk]; exact q3 k hk⟩
      · rw [c] at ce
        simp only [Bool.toNat_true] at ce
        rw [if_pos (by decide), q2, if_neg (fun z => absurd ((mn_lle (b := 3) (show mk_cnt G.testBit i < 2147483648 by omega) (by decide)).mp z) (show ¬ 3 ≤ mk_cnt G.testBit i by omega)), mk_bs (mx_known hT X' hW S' (show i < 31 by omega)), mk_bs (mn_ix (show mk_cnt G.testBit i < 3 by omega) (by omega))]
        refine mk_ok.let ?_
        have e68 : (mm_pI s.2 69 (mk_cnt G.testBit i) (Int32.ofNat (mk_kb A r i))).1 68 2 = Int32.ofNat (mk_cnt G.testBit i) := by rw [mp_I1, if_neg (by omega)]; exact q2
        rw [e68, mn_addl 1]
        refine mk_ok.let (mk_ok.ret ⟨(q1.tr (mk_ch.pI (D := fun c => c = 68 ∨ c = 69) (Or.inr rfl)) (fun _ z => z) (fun _ z => z)).tr (mk_ch.pI (D := fun c => c = 68 ∨ c = 69) (Or.inl rfl)) (fun _ z => z) (fun _ z => z), ?_, fun k hk => ?_⟩)
        · rw [mp_I1, if_pos ⟨rfl, rfl⟩, ce]
        · rw [mp_I1, if_neg (by omega), mp_I1]
          by_cases e : k = mk_cnt G.testBit i
          · rw [if_pos ⟨rfl, e⟩, e, mk_gu_new c]
          · rw [if_neg (fun z => e z.2), mk_gu_old (by omega)]; exact q3 k (by omega)
    · refine mk_ok.let ?_
      rw [mn_addl 1]
      exact mk_ok.inl ⟨rfl, q⟩
  · have X' := hX.ch q1 (fun c z => by omega)
    rw [X'.2.1.1, e1, if_pos (Int32.le_refl _)]
    exact mk_ok.inr ⟨q1, q2, q3⟩
