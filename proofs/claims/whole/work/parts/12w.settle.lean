/-! settle: who owes nothing; both sides -/
theorem mk_ns_one {nt : Nat → Int32} {i : Nat} (h : i < 6) : mk_ns nt (2 ^ i) 6 = nt i := by
  have : i = 0 ∨ i = 1 ∨ i = 2 ∨ i = 3 ∨ i = 4 ∨ i = 5 := by omega
  rcases this with rfl | rfl | rfl | rfl | rfl | rfl <;> simp [mk_ns, Nat.testBit, Nat.shiftRight_eq_div_pow]
theorem mk_Z_zero {nt : Nat → Int32} {s i : Nat} (hi : i < 6) (hb : s.testBit i = true) (h0 : nt i = 0) : mk_Z nt (mk_dif s (2 ^ i)) = mk_Z nt s := by
  have := mk_ns_dif (nt := nt) (mk_sub_and.mp (mk_one_sub hb)) 6
  rw [mk_ns_one hi, h0] at this
  have e : (0 : Int32) + mk_ns nt (mk_dif s (2 ^ i)) 6 = mk_ns nt (mk_dif s (2 ^ i)) 6 := by grind
  unfold mk_Z
  rw [this, e]
theorem mk_dif_comm {s a b : Nat} : mk_dif (mk_dif s a) b = mk_dif (mk_dif s b) a := by
  refine Nat.eq_of_testBit_eq (fun i => ?_)
  simp only [mk_dif_bit]
  cases s.testBit i <;> cases a.testBit i <;> cases b.testBit i <;> rfl
theorem mk_x_zero {nt : Nat → Int32} {P i : Nat} (hP6 : P ≤ 6) (hi : i < P) (h0 : nt i = 0) : ∀ (n s : Nat), s ≤ n → s < 2 ^ P → s.testBit i = true → mk_x0 (mk_Z nt) P s = mk_x0 (mk_Z nt) P (mk_dif s (2 ^ i)) + 1 := by
  intro n
  induction n with
  | zero => intro s h _ hb; rw [show s = 0 by omega, Nat.zero_testBit] at hb; exact absurd hb (by decide)
  | succ n ih =>
    intro s h hs hb
    have z := mk_Z_zero (by omega) hb h0
    have l := mk_one_lt hb
    have hpos : 0 < s := by omega
    have d1 : ((mk_Z nt s).toNat) ≤ 1 := by have := mn_bi (mk_Z nt s); omega
    have lo := mk_x_lo (z := mk_Z nt) hi hb
    have zz : mk_Z nt 0 = true := by
      unfold mk_Z
      rw [decide_eq_true_eq]
      simp [mk_ns]
    -- what is below: j in s, j not i
    have step : ∀ j, j < P → s.testBit j = true → ¬ j = i → mk_x0 (mk_Z nt) P (mk_dif s (2 ^ j)) = mk_x0 (mk_Z nt) P (mk_dif (mk_dif s (2 ^ i)) (2 ^ j)) + 1 := fun j hj bj ne => by
      have lj := mk_one_lt bj
      have b2 : (mk_dif s (2 ^ j)).testBit i = true := by rw [mk_dif_bit, hb, mk_one_bit, decide_eq_false ne]; rfl
      rw [ih _ (by omega) (by omega) b2, mk_dif_comm]
    apply Nat.le_antisymm
    · rcases mk_x_up (z := mk_Z nt) (P := P) hpos with e | ⟨j, hj, bj, e⟩
      · omega
      · by_cases ji : j = i
        · rw [ji] at e; omega
        · have st := step j hj bj ji
          have b3 : (mk_dif s (2 ^ i)).testBit j = true := by rw [mk_dif_bit, bj, mk_one_bit, decide_eq_false (fun q => ji q.symm)]; rfl
          have lo2 := mk_x_lo (z := mk_Z nt) hj b3
          rw [z] at lo2
          omega
    · by_cases s0 : mk_dif s (2 ^ i) = 0
      · rw [s0, zz] at z
        rw [s0] at lo ⊢
        rw [← z] at lo
        exact lo
      · rcases mk_x_up (z := mk_Z nt) (P := P) (s := mk_dif s (2 ^ i)) (by omega) with e | ⟨j, hj, bj, e⟩
        · rw [z] at e
          cases c : mk_Z nt s
          · rw [c] at e
            have m1 := mk_x_mono (z := mk_Z nt) (P := P) s s (2 ^ i) (Nat.le_refl _) hs (mk_one_sub hb)
            have m2 := mk_x_lo (z := mk_Z nt) (P := P) (s := 2 ^ i) hi (by rw [mk_one_bit, decide_eq_true rfl])
            have z1 := mk_Z_zero (nt := nt) (s := 2 ^ i) (i := i) (by omega) (by rw [mk_one_bit, decide_eq_true rfl]) h0
            have e0 : mk_dif (2 ^ i) (2 ^ i) = 0 := mk_dif_0.mpr (fun _ q => q)
            rw [e0, zz] at z1
            rw [e0, ← z1] at m2
            simp only [Bool.toNat_true, Bool.toNat_false] at m2 e
            omega
          · rw [c] at e lo
            simp only [Bool.toNat_true] at e lo
            omega
        · have bj' : s.testBit j = true := mk_dif_sub j bj
          have ji : ¬ j = i := fun q => by
            rw [q, mk_dif_bit, mk_one_bit, decide_eq_true rfl, Bool.not_true, Bool.and_false] at bj
            exact absurd bj (by decide)
          have st := step j hj bj' ji
          have lo2 := mk_x_lo (z := mk_Z nt) hj bj'
          rw [z] at e
          omega
def mk_nz (nt : Nat → Int32) (P : Nat) : Nat := mk_set (fun i => !decide (nt i = 0)) P
theorem mk_x_all {nt : Nat → Int32} {P : Nat} (hP6 : P ≤ 6) : mk_x0 (mk_Z nt) P (2 ^ P - 1) = mk_x0 (mk_Z nt) P (mk_nz nt P) + mk_cnt (fun i => decide (nt i = 0)) P := by
  have key : ∀ m, m ≤ P → mk_x0 (mk_Z nt) P (2 ^ P - 1) = mk_x0 (mk_Z nt) P (mk_set (fun i => decide (m ≤ i) || !decide (nt i = 0)) P) + mk_cnt (fun i => decide (nt i = 0)) m := by
    intro m
    induction m with
    | zero =>
      intro _
      have : mk_set (fun i => decide (0 ≤ i) || !decide (nt i = 0)) P = 2 ^ P - 1 := by
        refine Nat.eq_of_testBit_eq (fun i => ?_)
        rw [mk_set_bit, Nat.testBit_two_pow_sub_one, decide_eq_true (Nat.zero_le i), Bool.true_or, Bool.and_true]
      rw [this]; rfl
    | succ m ih =>
      intro h
      rw [ih (by omega)]
      by_cases c : nt m = 0
      · have hb : (mk_set (fun i => decide (m ≤ i) || !decide (nt i = 0)) P).testBit m = true := by
          rw [mk_set_bit, decide_eq_true (show m < P by omega), decide_eq_true (Nat.le_refl m)]; rfl
        rw [mk_x_zero hP6 (show m < P by omega) c _ _ (Nat.le_refl _) (mk_set_lt _ _) hb]
        have : mk_dif (mk_set (fun i => decide (m ≤ i) || !decide (nt i = 0)) P) (2 ^ m) = mk_set (fun i => decide (m + 1 ≤ i) || !decide (nt i = 0)) P := by
          refine Nat.eq_of_testBit_eq (fun i => ?_)
          rw [mk_dif_bit, mk_set_bit, mk_set_bit, mk_one_bit]
          by_cases e : m = i
          · subst e
            rw [decide_eq_true (show m = m from rfl), decide_eq_false (show ¬ m + 1 ≤ m by omega), decide_eq_true c]
            simp
          · rw [decide_eq_false e]
            have : decide (m ≤ i) = decide (m + 1 ≤ i) := by
              by_cases q : m ≤ i
              · rw [decide_eq_true q, decide_eq_true (show m + 1 ≤ i by omega)]
              · rw [decide_eq_false q, decide_eq_false (show ¬ m + 1 ≤ i by omega)]
            rw [this]
            simp
        rw [this]
        show _ = _ + (mk_cnt (fun i => decide (nt i = 0)) m + (decide (nt m = 0)).toNat)
        rw [decide_eq_true c]
        simp only [Bool.toNat_true]
        omega
      · have : mk_set (fun i => decide (m ≤ i) || !decide (nt i = 0)) P = mk_set (fun i => decide (m + 1 ≤ i) || !decide (nt i = 0)) P := by
          refine Nat.eq_of_testBit_eq (fun i => ?_)
          rw [mk_set_bit, mk_set_bit]
          by_cases e : m = i
          · subst e
            rw [decide_eq_false c]
            simp
          · have : decide (m ≤ i) = decide (m + 1 ≤ i) := by
              by_cases q : m ≤ i
              · rw [decide_eq_true q, decide_eq_true (show m + 1 ≤ i by omega)]
              · rw [decide_eq_false q, decide_eq_false (show ¬ m + 1 ≤ i by omega)]
            rw [this]
        rw [this]
        show _ = _ + (mk_cnt (fun i => decide (nt i = 0)) m + (decide (nt m = 0)).toNat)
        rw [decide_eq_false c]
        rfl
  rw [key P (Nat.le_refl _)]
  congr 2
  refine Nat.eq_of_testBit_eq (fun i => ?_)
  unfold mk_nz
  rw [mk_set_bit, mk_set_bit]
  by_cases e : i < P
  · rw [decide_eq_false (show ¬ P ≤ i by omega), Bool.false_or]
  · rw [decide_eq_false e, Bool.false_and, Bool.false_and]
theorem mk_cnt_cut {g : Nat → Bool} {P : Nat} : ∀ n, P ≤ n → mk_cnt (fun i => decide (i < P) && g i) n = mk_cnt g P
  | 0, h => by rw [show P = 0 by omega]; rfl
  | n + 1, h => by
    show mk_cnt (fun i => decide (i < P) && g i) n + (decide (n < P) && g n).toNat = _
    by_cases e : P = n + 1
    · subst e
      rw [decide_eq_true (show n < n + 1 by omega), Bool.true_and]
      show _ = mk_cnt g n + (g n).toNat
      rw [mk_cnt_congr (g := g) (fun i hi => by rw [decide_eq_true (show i < n + 1 by omega), Bool.true_and])]
    · rw [mk_cnt_cut n (by omega), decide_eq_false (show ¬ n < P by omega), Bool.false_and]; rfl
theorem mk_pc_nz {nt : Nat → Int32} {P : Nat} (hP6 : P ≤ 6) : mk_pc (mk_nz nt P) + mk_cnt (fun i => decide (nt i = 0)) P = P := by
  have e : mk_pc (mk_nz nt P) = mk_cnt (fun i => !decide (nt i = 0)) P := by
    unfold mk_pc mk_nz
    rw [mk_cnt_congr (g := fun i => decide (i < P) && !decide (nt i = 0)) (fun i _ => mk_set_bit _ _ _), mk_cnt_cut 10 (by omega)]
  rw [e]
  have : ∀ n, mk_cnt (fun i => !decide (nt i = 0)) n + mk_cnt (fun i => decide (nt i = 0)) n = n := by
    intro n
    induction n with
    | zero => rfl
    | succ n ih =>
      show mk_cnt (fun i => !decide (nt i = 0)) n + (!decide (nt n = 0)).toNat + (mk_cnt (fun i => decide (nt i = 0)) n + (decide (nt n = 0)).toNat) = n + 1
      cases decide (nt n = 0)
      · simp only [Bool.not_false, Bool.toNat_true, Bool.toNat_false]; omega
      · simp only [Bool.not_true, Bool.toNat_true, Bool.toNat_false]; omega
  exact this P
theorem mk_net_no {A : mk_A} {r : Nat → Nat} (hW : mk_W A r) {i : Nat} (hi : i < 6) (h : A 263 0 ≤ i) : mk_net r i = 0 := by
  have w8 := hW.2.2.2.2.2.2.2
  have : ∀ n, n ≤ 6 → mk_netN r i n = 0 := by
    intro n
    induction n with
    | zero => intro _; rfl
    | succ n ih =>
      intro hn
      simp only [mk_netN]
      rw [ih (by omega), w8 i n hi (by omega) (Or.inl h), w8 n i (by omega) hi (Or.inr h)]
      decide
  exact this 6 (Nat.le_refl _)
theorem mk_Z_nz {A : mk_A} {r : Nat → Nat} (hT : mk_T A) (hW : mk_W A r) : mk_Z (mk_net r) (mk_nz (mk_net r) (A 263 0)) = true := by
  have t : ∀ i, i < 6 → (if (mk_nz (mk_net r) (A 263 0)).testBit i = true then mk_net r i else 0) = mk_net r i := fun i hi => by
    unfold mk_nz
    rw [mk_set_bit]
    by_cases h : i < A 263 0
    · rw [decide_eq_true h, Bool.true_and]
      by_cases z : mk_net r i = 0
      · rw [z]; split <;> rfl
      · rw [decide_eq_false z]; rfl
    · rw [mk_net_no hW hi (by omega)]; split <;> rfl
  unfold mk_Z
  rw [decide_eq_true_eq]
  simp only [mk_ns]
  rw [t 0 (by omega), t 1 (by omega), t 2 (by omega), t 3 (by omega), t 4 (by omega), t 5 (by omega)]
  simp only [mk_net, mk_netN]
  grind
theorem mk_x0_le {z : Nat → Bool} {P : Nat} : ∀ (n s : Nat), s ≤ n → mk_x0 z P s ≤ s := by
  intro n
  induction n with
  | zero => intro s h; rw [show s = 0 by omega, mk_x0_0]; exact Nat.le_refl _
  | succ n ih =>
    intro s h
    by_cases e : s = 0
    · rw [e, mk_x0_0]; exact Nat.le_refl _
    · have := mn_bi (z s)
      rcases mk_x_up (z := z) (P := P) (s := s) (by omega) with q | ⟨i, _, b, q⟩
      · omega
      · have l := mk_one_lt b
        have := ih _ (show mk_dif s (2 ^ i) ≤ n by omega)
        omega
/-- the answer -/
def mk_stl (A : mk_A) (r : Nat → Nat) : Int32 := Int32.ofNat (A 263 0) - Int32.ofNat (mk_x0 (mk_Z (mk_net r)) (A 263 0) (2 ^ A 263 0 - 1))
theorem mk_stl_is {A : mk_A} {r : Nat → Nat} {v : Nat → Nat} (hT : mk_T A) (hW : mk_W A r) (hv : ∀ s, s < 2 ^ A 263 0 → mk_vs (mk_Z (mk_net r)) v s) : Int32.ofNat (mk_pc (mk_nz (mk_net r) (A 263 0))) - (Int32.ofNat (v (mk_nz (mk_net r) (A 263 0))) - 100) = mk_stl A r := by
  have hP := hT.1.1
  rw [mk_v_eq (s := mk_nz (mk_net r) (A 263 0)) hv (mk_set_lt _ _) (mk_Z_nz hT hW)]
  unfold mk_stl
  rw [mk_x_all hP]
  have pc := mk_pc_nz (nt := mk_net r) hP
  have e1 : Int32.ofNat (A 263 0) = Int32.ofNat (mk_pc (mk_nz (mk_net r) (A 263 0))) + Int32.ofNat (mk_cnt (fun i => decide (mk_net r i = 0)) (A 263 0)) := by rw [mn_add, pc]
  rw [e1, ← mn_add (mk_x0 _ _ _), mn_subl (b := 100) (show 100 ≤ 100 + mk_x0 (mk_Z (mk_net r)) (A 263 0) (mk_nz (mk_net r) (A 263 0)) by omega)]
  have e2 : Int32.ofNat (100 + mk_x0 (mk_Z (mk_net r)) (A 263 0) (mk_nz (mk_net r) (A 263 0)) - OfNat.ofNat 100) = Int32.ofNat (mk_x0 (mk_Z (mk_net r)) (A 263 0) (mk_nz (mk_net r) (A 263 0))) := by
    congr 1
    exact Nat.add_sub_cancel_left _ _
  rw [e2]
  grind
