/-! rests: what a choice brings, the reference's side -/
theorem mk_oth_all {ch : Nat → Nat} {k y : Nat} (hc : ch k = y) : ∀ n, mk_cnt (fun j => decide (ch j = y)) n = mk_oth ch k y n + (if k < n then 1 else 0)
  | 0 => rfl
  | n + 1 => by
    have ih := mk_oth_all hc n
    show mk_cnt (fun j => decide (ch j = y)) n + (decide (ch n = y)).toNat = mk_oth ch k y n + (!decide (n = k) && decide (ch n = y)).toNat + _
    by_cases e : n = k
    · rw [e, hc, decide_eq_true (show y = y from rfl), decide_eq_true (show k = k from rfl), if_pos (show k < k + 1 by omega)]
      rw [e, if_neg (show ¬ k < k by omega)] at ih
      rw [ih]; rfl
    · rw [decide_eq_false e]
      by_cases l : k < n
      · rw [if_pos l] at ih
        rw [if_pos (show k < n + 1 by omega), ih]
        simp only [Bool.not_false, Bool.true_and]
        omega
      · rw [if_neg l] at ih
        rw [if_neg (show ¬ k < n + 1 by omega), ih]
        simp only [Bool.not_false, Bool.true_and]
        omega
theorem mi_hasBy {A : mk_A} {E : mk_E} {r : Nat → Nat} {n k : Nat} {ch : Nat → Nat} {h : mm_H} (hT : mk_T A) (hW : mk_W A r) (hM : mk_MT A E h) (hR : mk_MR r h) (hn : n ≤ 3) (hk : k < n) (h68 : h.1 261 68 = Int32.ofNat n) (h315 : ∀ j, j < n → h.1 315 j = Int32.ofNat (ch j) ∧ ch j ≤ 10) (hS : ¬ ch k = 0 → ch k - 1 < A 263 1) : mk_ok (f_M_hasBy (Int32.ofNat k) h) (fun v => v.1 = mk_shr (mk_w A E r) ch n k (ch k) ∧ mk_ch mk_DM h v.2) := by
  obtain ⟨c1, c2⟩ := h315 k hk
  have ix : mm_ix (Int32.ofNat k) 3 = some k := mn_ix (by omega) (by omega)
  have Z : (Int32.ofNat (ch k) = 0) ↔ ch k = 0 := mn_eql (b := 0) (show ch k < 4294967296 by omega) (by decide)
  unfold f_M_hasBy mk_shr
  refine mk_ok.bs ix ?_
  rw [c1]
  by_cases c : ch k = 0
  · rw [if_pos (Z.mpr c), if_pos c]
    exact mk_ok.ret ⟨rfl, mk_ch.rf⟩
  · rw [if_neg (fun z => c (Z.mp z)), if_neg c]
    refine mk_ok.bind (mk_ok.for (ρ := Int32) n (fun i (s : Int32 × Int32) => s.2 = Int32.ofNat i ∧ s.1 = Int32.ofNat (mk_cnt (fun j => decide (ch j = ch k)) i)) (Q := fun v => v = Int32.ofNat (mk_cnt (fun j => decide (ch j = ch k)) n)) ⟨rfl, rfl⟩ (fun i s hi ⟨e1, e2⟩ => ?_) (fun s ⟨e1, e2⟩ => ?_)) (fun v6 b => ?_)
    · obtain ⟨d1, d2⟩ := h315 i hi
      have en : mk_cnt (fun j => decide (ch j = ch k)) (i + 1) = mk_cnt (fun j => decide (ch j = ch k)) i + (decide (ch i = ch k)).toNat := rfl
      rw [h68, e1, e2, if_neg (fun z => absurd ((mn_le (by omega) (by omega)).mp z) (show ¬ n ≤ i by omega)), mk_bs (mn_ix (show i < 3 by omega) (by omega)), mk_bs ix, d1, c1, en]
      refine mk_ok.bs (v := Int32.ofNat (decide (ch i = ch k)).toNat) ?_ ?_
      · by_cases f : ch i = ch k
        · rw [if_pos (by rw [f]), decide_eq_true f]; rfl
        · rw [if_neg (fun z => f ((mn_eq (by omega) (by omega)).mp z)), decide_eq_false f]; rfl
      · refine mk_ok.let ?_
        refine mk_ok.let ?_
        rw [mn_addl 1, mn_add]
        exact mk_ok.inl ⟨rfl, rfl⟩
    · rw [h68, e1, if_pos (Int32.le_refl _)]
      exact mk_ok.inr e2
    have num : mk_cnt (fun j => decide (ch j = ch k)) n = 1 + mk_oth ch k (ch k) n := by
      rw [mk_oth_all rfl n, if_pos hk]; omega
    have on : mk_oth ch k (ch k) n ≤ n := mk_cnt_le _ _
    have nz : mm_nzI (Int32.ofNat (1 + mk_oth ch k (ch k) n)) = some () := by
      unfold mm_nzI
      rw [if_neg (fun z => absurd ((mn_eql (b := 0) (show 1 + mk_oth ch k (ch k) n < 4294967296 by omega) (by decide)).mp z) (show ¬ 1 + mk_oth ch k (ch k) n = 0 by omega))]
    have wl := mk_w_lt (E := E) (r := r) hT (hS c)
    refine mk_ok.bs ix ?_
    rw [c1, mn_on1 c]
    refine mk_ok.bind (mi_worthOf hT hW hM hR (hS c)) (fun v29 ⟨g1, g2⟩ => ?_)
    rw [b, num, mk_bs nz, g1, mn_div (by omega) (by omega)]
    exact mk_ok.ret ⟨rfl, g2⟩
