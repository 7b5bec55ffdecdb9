theorem mk_cnt_hi {G P : Nat} (hG : G < 2 ^ P) : ∀ n, P ≤ n → mk_cnt G.testBit n = mk_cnt G.testBit P
  | 0, h => by rw [show P = 0 by omega]
  | n + 1, h => by
    by_cases e : P = n + 1
    · rw [e]
    · have hb : G.testBit n = false := Nat.testBit_lt_two_pow (Nat.lt_of_lt_of_le hG (Nat.pow_le_pow_right (by omega) (by omega)))
      show mk_cnt G.testBit n + (G.testBit n).toNat = _
      rw [hb, mk_cnt_hi hG n (by omega)]; rfl
theorem mk_gu_hi {G P k : Nat} (hG : G < 2 ^ P) (hk : k < mk_cnt G.testBit P) : ∀ n, P ≤ n → mk_gu G n k = mk_gu G P k
  | 0, h => by rw [show P = 0 by omega]
  | n + 1, h => by
    by_cases e : P = n + 1
    · rw [e]
    · rw [mk_gu_old (by rw [mk_cnt_hi hG n (by omega)]; exact hk), mk_gu_hi hG hk n (by omega)]
theorem mk_gu_lt {G P k : Nat} (hk : k < mk_cnt G.testBit P) : mk_gu G P k < P ∧ G.testBit (mk_gu G P k) = true := by
  induction P with
  | zero => exact absurd hk (Nat.not_lt_zero k)
  | succ n ih =>
    have ce : mk_cnt G.testBit (n + 1) = mk_cnt G.testBit n + (G.testBit n).toNat := rfl
    by_cases l : k < mk_cnt G.testBit n
    · rw [mk_gu_old l]
      exact ⟨by have := (ih l).1; omega, (ih l).2⟩
    · cases c : G.testBit n
      · rw [c] at ce
        simp only [Bool.toNat_false] at ce
        omega
      · rw [c] at ce
        simp only [Bool.toNat_true] at ce
        rw [show k = mk_cnt G.testBit n by omega, mk_gu_new c]
        exact ⟨by omega, c⟩
theorem mi_invite {G : Nat} {h : mm_H} (hG : G < 64) (h3 : mk_cnt G.testBit 6 ≤ 3) : mk_ok (mm_while (σ := (Int32 × Int32 × mm_H)) (ρ := (Int32 × mm_H)) (fun s9 => if 6 ≤ s9.2.1 then (some (Sum.inr (s9.1, s9.2.2))) else ((if ((Int32.ofNat G >>> (s9.2.1 &&& 31)) &&& 1) = 0 then (some (s9.1, s9.2.2)) else ((mm_ix (s9.2.2.1 261 68) 3).bind fun k17 => mm_let (mm_pI s9.2.2 314 k17 s9.2.1) fun h19 => mm_let (mm_pI h19 261 68 ((h19.1 261 68) + 1)) fun h21 => mm_let (s9.1 * 11) fun y23 => some (y23, h21)) : Option (Int32 × mm_H)).bind fun j15 => mm_let (s9.2.1 + 1) fun y28 => some (Sum.inl (j15.1, y28, j15.2)))) (1, 0, mm_pI h 261 68 0)) (fun v => v.1 = Int32.ofNat (11 ^ mk_cnt G.testBit 6) ∧ mk_s2m h v.2 ∧ v.2.1 261 68 = Int32.ofNat (mk_cnt G.testBit 6) ∧ ∀ k, k < mk_cnt G.testBit 6 → v.2.1 314 k = Int32.ofNat (mk_gu G 6 k)) := by
  have p314 : ∀ (g : mm_H) k v, mk_s2m g (mm_pI g 314 k v) := fun g k v => mk_s2m.of (D := fun c => c = 314) (mk_ch.pI rfl) (fun c z => by unfold mk_sm; omega)
  have p261 : ∀ (g : mm_H) v, mk_s2m g (mm_pI g 261 68 v) := fun g v => mk_s2m.pI ⟨by decide, by decide⟩
  refine mk_ok.for (ρ := Int32 × mm_H) 6 (fun i (s : Int32 × Int32 × mm_H) => s.2.1 = Int32.ofNat i ∧ s.1 = Int32.ofNat (11 ^ mk_cnt G.testBit i) ∧ mk_s2m h s.2.2 ∧ s.2.2.1 261 68 = Int32.ofNat (mk_cnt G.testBit i) ∧ ∀ k, k < mk_cnt G.testBit i → s.2.2.1 314 k = Int32.ofNat (mk_gu G i k)) ⟨rfl, rfl, p261 _ _, by show (mm_pI h 261 68 0).1 261 68 = _; rw [mp_I1, if_pos ⟨rfl, rfl⟩]; rfl, fun k hk => absurd hk (Nat.not_lt_zero k)⟩ (fun i s hi ⟨e1, e2, q1, q2, q3⟩ => ?_) (fun s ⟨e1, e2, q1, q2, q3⟩ => ?_)
  · have cu := mk_cnt_up (f := G.testBit) (a := i + 1) 6 (by omega)
    have ce : mk_cnt G.testBit (i + 1) = mk_cnt G.testBit i + (G.testBit i).toNat := rfl
    rw [e1, if_neg (fun z => absurd ((mn_lle (b := 6) (show i < 2147483648 by omega) (by decide)).mp z) (show ¬ 6 ≤ i by omega)), mn_bit (by omega) (by omega)]
    refine mk_ok.bind (Q := fun v : Int32 × mm_H => v.1 = Int32.ofNat (11 ^ mk_cnt G.testBit (i + 1)) ∧ mk_s2m h v.2 ∧ v.2.1 261 68 = Int32.ofNat (mk_cnt G.testBit (i + 1)) ∧ ∀ k, k < mk_cnt G.testBit (i + 1) → v.2.1 314 k = Int32.ofNat (mk_gu G (i + 1) k)) ?_ (fun v q => ?_)
    · cases c : G.testBit i
      · rw [c] at ce
        simp only [Bool.toNat_false, Nat.add_zero] at ce
        rw [if_pos (by decide), ce]
        exact mk_ok.ret ⟨e2, q1, q2, fun k hk => by rw [mk_gu_old hk]; exact q3 k hk⟩
      · rw [c] at ce
        simp only [Bool.toNat_true] at ce
        rw [if_neg (by decide), q2, mk_bs (mn_ix (show mk_cnt G.testBit i < 3 by omega) (by omega))]
        refine mk_ok.let ?_
        have e68 : (mm_pI s.2.2 314 (mk_cnt G.testBit i) (Int32.ofNat i)).1 261 68 = Int32.ofNat (mk_cnt G.testBit i) := by rw [mp_I1, if_neg (by omega)]; exact q2
        rw [e68, mn_addl 1, e2, mn_mull 11]
        refine mk_ok.let (mk_ok.let (mk_ok.ret ⟨?_, (q1.tr (p314 _ _ _)).tr (p261 _ _), ?_, fun k hk => ?_⟩))
        · show Int32.ofNat (11 ^ mk_cnt G.testBit i * 11) = _
          rw [ce, Nat.pow_succ]
        · rw [mp_I1, if_pos ⟨rfl, rfl⟩, ce]
        · rw [mp_I1, if_neg (by omega), mp_I1]
          by_cases e : k = mk_cnt G.testBit i
          · rw [if_pos ⟨rfl, e⟩, e, mk_gu_new c]
          · rw [if_neg (fun z => e z.2), mk_gu_old (by omega)]; exact q3 k (by omega)
    · refine mk_ok.let ?_
      rw [mn_addl 1]
      exact mk_ok.inl ⟨rfl, q⟩
  · rw [e1, if_pos (by decide)]
    exact mk_ok.inr ⟨e2, q1, q2, q3⟩
