/-! rests: what a choice brings, the class's side -/
def mk_oth (ch : Nat → Nat) (k y : Nat) : Nat → Nat := mk_cnt (fun j => !decide (j = k) && decide (ch j = y))
def mk_shr (w : Nat → Nat) (ch : Nat → Nat) (n k y : Nat) : Int32 := if y = 0 then 0 else Int32.ofNat (w (y - 1) / (1 + mk_oth ch k y n)) - 1
theorem mx_shareOf {n k y : Nat} {w ch : Nat → Nat} {h : mm_H} (hn : n ≤ 3) (hk : k < 3) (hy : y ≤ 10) (h68 : h.1 68 2 = Int32.ofNat n) (h70 : ∀ j, j < n → h.1 70 j = Int32.ofNat (ch j) ∧ ch j ≤ 10) (h76 : ¬ y = 0 → h.1 76 (y - 1) = Int32.ofNat (w (y - 1)) ∧ w (y - 1) ≤ 99900) : f_Fe_share (Int32.ofNat k) (Int32.ofNat y) 76 h = some (mk_shr w ch n k y) := by
  have Z : (Int32.ofNat y = 0) ↔ y = 0 := mn_eql (b := 0) (show y < 4294967296 by omega) (by decide)
  unfold f_Fe_share mk_shr
  rw [if_pos mk_t76.1]
  by_cases c : y = 0
  · rw [if_pos (Z.mpr c), if_pos c]
  · rw [if_neg (fun z => c (Z.mp z)), if_neg c]
    obtain ⟨w1, w2⟩ := h76 c
    have ol : ∀ i, mk_oth ch k y i ≤ i := fun i => mk_cnt_le _ _
    have L : mk_ok (mm_while (σ := (Int32 × Int32)) (ρ := Int32) (fun s1 => if (h.1 68 2) ≤ s1.2 then (some (Sum.inr s1.1)) else ((if s1.2 = Int32.ofNat k then (some s1.1) else ((mm_ix s1.2 3).bind fun k9 => if (h.1 70 k9) = Int32.ofNat y then (mm_let (s1.1 + 1) fun y11 => some y11) else (some s1.1)) : Option Int32).bind fun j7 => mm_let (s1.2 + 1) fun y19 => some (Sum.inl (j7, y19)))) (1, 0)) (fun v => v = Int32.ofNat (1 + mk_oth ch k y n)) := by
      refine mk_ok.for (ρ := Int32) n (fun i (s : Int32 × Int32) => s.2 = Int32.ofNat i ∧ s.1 = Int32.ofNat (1 + mk_oth ch k y i)) ⟨rfl, rfl⟩ (fun i s hi ⟨e1, e2⟩ => ?_) (fun s ⟨e1, e2⟩ => ?_)
      · have en : mk_oth ch k y (i + 1) = mk_oth ch k y i + (!decide (i = k) && decide (ch i = y)).toNat := rfl
        obtain ⟨c1, c2⟩ := h70 i hi
        rw [h68, e1, e2, if_neg (fun z => absurd ((mn_le (by omega) (by omega)).mp z) (show ¬ n ≤ i by omega)), en]
        refine mk_ok.bs (v := Int32.ofNat (1 + (mk_oth ch k y i + (!decide (i = k) && decide (ch i = y)).toNat))) ?_ ?_
        · by_cases d : i = k
          · rw [if_pos (by rw [d]), decide_eq_true d]; rfl
          · rw [if_neg (fun z => d ((mn_eq (by omega) (by omega)).mp z)), mk_bs (mn_ix (show i < 3 by omega) (by omega)), c1, decide_eq_false d]
            by_cases f : ch i = y
            · rw [if_pos (by rw [f]), decide_eq_true f, mn_addl 1]; rfl
            · rw [if_neg (fun z => f ((mn_eq (by omega) (by omega)).mp z)), decide_eq_false f]; rfl
        · refine mk_ok.let ?_
          rw [mn_addl 1]
          exact mk_ok.inl ⟨rfl, rfl⟩
      · rw [h68, e1, if_pos (Int32.le_refl _)]
        exact mk_ok.inr e2
    obtain ⟨v, ev, q⟩ := L
    have on := ol n
    have nz : mm_nzI (Int32.ofNat (1 + mk_oth ch k y n)) = some () := by
      unfold mm_nzI
      rw [if_neg (fun z => absurd ((mn_eql (b := 0) (show 1 + mk_oth ch k y n < 4294967296 by omega) (by decide)).mp z) (show ¬ 1 + mk_oth ch k y n = 0 by omega))]
    rw [mk_bs ev, q, mk_t76.2, mn_on1 c, mk_bs (mn_ix (show y - 1 < 10 by omega) (by omega)), mk_bs nz, w1, mn_div (by omega) (by omega)]
