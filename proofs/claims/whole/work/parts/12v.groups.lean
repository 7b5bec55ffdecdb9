/-! settle in pure words: groups that sum to 0 -/
def mk_ns (nt : Nat → Int32) (s : Nat) : Nat → Int32
  | 0 => 0
  | i + 1 => mk_ns nt s i + (if s.testBit i = true then nt i else 0)
def mk_Z (nt : Nat → Int32) (s : Nat) : Bool := decide (mk_ns nt s 6 = 0)
theorem mk_ns_dif {nt : Nat → Int32} {s t : Nat} (h : t &&& s = t) : ∀ n, mk_ns nt s n = mk_ns nt t n + mk_ns nt (mk_dif s t) n
  | 0 => rfl
  | n + 1 => by
    have ih := mk_ns_dif (nt := nt) h n
    have hb : t.testBit n = true → s.testBit n = true := fun z => by
      have := congrArg (fun x => x.testBit n) h
      simp only [Nat.testBit_and, z, Bool.true_and] at this
      exact this
    simp only [mk_ns, mk_dif_bit]
    rw [ih]
    cases a : t.testBit n
    · cases b : s.testBit n
      · simp
      · simp; grind
    · rw [hb a]; simp; grind
theorem mk_Z_dif {nt : Nat → Int32} {s t : Nat} (h : t &&& s = t) (hs : mk_Z nt s = true) (ht : mk_Z nt t = true) : mk_Z nt (mk_dif s t) = true := by
  unfold mk_Z at *
  rw [decide_eq_true_eq] at *
  have := mk_ns_dif (nt := nt) h 6
  rw [hs, ht] at this
  have e : (0 : Int32) + mk_ns nt (mk_dif s t) 6 = mk_ns nt (mk_dif s t) 6 := by grind
  rw [e] at this
  exact this.symm
theorem mk_dif_lt {s z : Nat} (h : z &&& s = z) (hz : 0 < z) : mk_dif s z < s := by
  have le : mk_dif s z &&& s = mk_dif s z := by
    refine Nat.eq_of_testBit_eq (fun i => ?_)
    rw [Nat.testBit_and, mk_dif_bit]
    cases s.testBit i <;> cases z.testBit i <;> rfl
  have h1 : mk_dif s z ≤ s := by rw [← le]; exact Nat.and_le_right
  have h2 : ¬ mk_dif s z = s := fun e => by
    have : z = 0 := by
      refine Nat.eq_of_testBit_eq (fun i => ?_)
      have k1 := congrArg (fun x => x.testBit i) h
      have k2 := congrArg (fun x => x.testBit i) e
      simp only [Nat.testBit_and, mk_dif_bit] at k1 k2
      rw [Nat.zero_testBit]
      cases c : z.testBit i
      · rfl
      · rw [c] at k1 k2
        cases d : s.testBit i
        · rw [d] at k1; exact k1.symm
        · rw [d] at k2; exact absurd k2 (by decide)
    omega
  omega
def mk_sub (t s : Nat) : Prop := ∀ i, t.testBit i = true → s.testBit i = true
theorem mk_sub_and {t s : Nat} : mk_sub t s ↔ t &&& s = t := by rw [← mk_dif_and, mk_dif_0]; rfl
theorem mk_dif_sub {s t : Nat} : mk_sub (mk_dif s t) s := fun i h => by rw [mk_dif_bit] at h; exact (Bool.and_eq_true _ _ ▸ h).1
theorem mk_one_bit {i j : Nat} : (2 ^ i).testBit j = decide (i = j) := Nat.testBit_two_pow
theorem mk_one_sub {s i : Nat} (h : s.testBit i = true) : mk_sub (2 ^ i) s := fun j hj => by rw [mk_one_bit, decide_eq_true_eq] at hj; rw [← hj]; exact h
theorem mk_one_lt {s i : Nat} (h : s.testBit i = true) : mk_dif s (2 ^ i) < s := mk_dif_lt (mk_sub_and.mp (mk_one_sub h)) (Nat.two_pow_pos i)
/-- the class's table -/
def mk_mi (T : Nat → Nat) (s : Nat) : Nat → Nat
  | 0 => 0
  | i + 1 => if s.testBit i = true then max (mk_mi T s i) (T (mk_dif s (2 ^ i))) else mk_mi T s i
theorem mk_mi_congr {T T' : Nat → Nat} {s : Nat} (h : ∀ x, x < s → T x = T' x) : ∀ n, mk_mi T s n = mk_mi T' s n
  | 0 => rfl
  | n + 1 => by
    unfold mk_mi
    rw [mk_mi_congr h n]
    by_cases c : s.testBit n = true
    · rw [if_pos c, if_pos c, h _ (mk_one_lt c)]
    · rw [if_neg c, if_neg c]
theorem mk_mi_ge {T : Nat → Nat} {s i : Nat} (h : s.testBit i = true) : ∀ n, i < n → T (mk_dif s (2 ^ i)) ≤ mk_mi T s n
  | 0, q => absurd q (by omega)
  | n + 1, q => by
    unfold mk_mi
    by_cases e : i = n
    · subst e; rw [if_pos h]; exact Nat.le_max_right _ _
    · have := mk_mi_ge (T := T) h n (by omega)
      split
      · exact Nat.le_trans this (Nat.le_max_left _ _)
      · exact this
theorem mk_mi_is {T : Nat → Nat} {s : Nat} : ∀ n, mk_mi T s n = 0 ∨ ∃ i, i < n ∧ s.testBit i = true ∧ mk_mi T s n = T (mk_dif s (2 ^ i))
  | 0 => Or.inl rfl
  | n + 1 => by
    have ih := mk_mi_is (T := T) (s := s) n
    unfold mk_mi
    by_cases c : s.testBit n = true
    · rw [if_pos c]
      by_cases d : mk_mi T s n ≤ T (mk_dif s (2 ^ n))
      · rw [Nat.max_eq_right d]
        exact Or.inr ⟨n, by omega, c, rfl⟩
      · rw [Nat.max_eq_left (by omega)]
        rcases ih with a | ⟨i, a, b, e⟩
        · exact Or.inl a
        · exact Or.inr ⟨i, by omega, b, e⟩
    · rw [if_neg c]
      rcases ih with a | ⟨i, a, b, e⟩
      · exact Or.inl a
      · exact Or.inr ⟨i, by omega, b, e⟩
def mk_tx (z : Nat → Bool) (P : Nat) : Nat → Nat → Nat
  | 0 => fun _ => 0
  | n + 1 => fun s => if s = n ∧ ¬ n = 0 then mk_mi (mk_tx z P n) n P + (z n).toNat else mk_tx z P n s
def mk_x0 (z : Nat → Bool) (P s : Nat) : Nat := mk_tx z P (s + 1) s
theorem mk_tx_st {z : Nat → Bool} {P s : Nat} : ∀ n, s < n → mk_tx z P n s = mk_x0 z P s
  | 0, h => absurd h (by omega)
  | n + 1, h => by
    by_cases e : s = n
    · subst e; rfl
    · show (if s = n ∧ ¬ n = 0 then _ else mk_tx z P n s) = _
      rw [if_neg (fun y => e y.1)]
      exact mk_tx_st n (by omega)
theorem mk_x0_0 {z : Nat → Bool} {P : Nat} : mk_x0 z P 0 = 0 := by
  show (if 0 = 0 ∧ ¬ 0 = 0 then mk_mi (mk_tx z P 0) 0 P + (z 0).toNat else 0) = 0
  rw [if_neg (fun y => y.2 rfl)]
theorem mk_x0_s {z : Nat → Bool} {P s : Nat} (h : 0 < s) : mk_x0 z P s = mk_mi (mk_x0 z P) s P + (z s).toNat := by
  show (if s = s ∧ ¬ s = 0 then mk_mi (mk_tx z P s) s P + (z s).toNat else _) = _
  rw [if_pos ⟨rfl, by omega⟩, mk_mi_congr (fun x hx => mk_tx_st s hx)]
theorem mk_x_lo {z : Nat → Bool} {P s i : Nat} (hi : i < P) (hb : s.testBit i = true) : mk_x0 z P (mk_dif s (2 ^ i)) + (z s).toNat ≤ mk_x0 z P s := by
  have h0 : 0 < s := Nat.pos_of_ne_zero (fun e => by rw [e, Nat.zero_testBit] at hb; exact absurd hb (by decide))
  rw [mk_x0_s h0]
  have := mk_mi_ge (T := mk_x0 z P) hb P hi
  omega
theorem mk_x_up {z : Nat → Bool} {P s : Nat} (h0 : 0 < s) : mk_x0 z P s = (z s).toNat ∨ ∃ i, i < P ∧ s.testBit i = true ∧ mk_x0 z P s = mk_x0 z P (mk_dif s (2 ^ i)) + (z s).toNat := by
  rw [mk_x0_s h0]
  rcases mk_mi_is (T := mk_x0 z P) (s := s) P with e | ⟨i, a, b, e⟩
  · rw [e]; exact Or.inl (Nat.zero_add _)
  · rw [e]; exact Or.inr ⟨i, a, b, rfl⟩
theorem mk_bit_lt {s P i : Nat} (hs : s < 2 ^ P) (hb : s.testBit i = true) : i < P := by
  by_cases h : i < P
  · exact h
  · rw [Nat.testBit_lt_two_pow (Nat.lt_of_lt_of_le hs (Nat.pow_le_pow_right (by omega) (by omega)))] at hb
    exact absurd hb (by decide)
theorem mk_more {t s : Nat} (h : mk_sub t s) (hn : ¬ t = s) : ∃ i, s.testBit i = true ∧ t.testBit i = false := by
  refine Classical.byContradiction (fun q => hn (Nat.eq_of_testBit_eq (fun i => ?_)))
  cases a : t.testBit i
  · cases b : s.testBit i
    · rfl
    · exact absurd ⟨i, b, a⟩ q
  · exact (h i a).symm
theorem mk_sub_le {t s : Nat} (h : mk_sub t s) : t ≤ s := by rw [← mk_sub_and.mp h]; exact Nat.and_le_right
theorem mk_x_mono {z : Nat → Bool} {P : Nat} : ∀ (n s t : Nat), s ≤ n → s < 2 ^ P → mk_sub t s → mk_x0 z P t ≤ mk_x0 z P s := by
  intro n
  induction n with
  | zero => intro s t h _ hs; have := mk_sub_le hs; rw [show t = s by omega]; exact Nat.le_refl _
  | succ n ih =>
    intro s t h hP hs
    by_cases e : t = s
    · rw [e]; exact Nat.le_refl _
    · obtain ⟨i, a, b⟩ := mk_more hs e
      have l := mk_one_lt a
      have := ih (mk_dif s (2 ^ i)) t (by omega) (by omega) (fun j hj => by
        rw [mk_dif_bit, hs j hj, mk_one_bit, Bool.true_and]
        have : ¬ i = j := fun y => by rw [← y, b] at hj; exact absurd hj (by decide)
        rw [decide_eq_false this]; rfl)
      have := mk_x_lo (z := z) (mk_bit_lt hP a) a
      omega
/-- the reference's table, 100 more -/
def mk_vs (z : Nat → Bool) (v : Nat → Nat) (s : Nat) : Prop := (∀ y, mk_sub y s → 0 < y → z y = true → v (mk_dif s y) + 1 ≤ v s) ∧ (v s = (if s = 0 then 100 else 0) ∨ ∃ y, mk_sub y s ∧ 0 < y ∧ z y = true ∧ v s = v (mk_dif s y) + 1)
theorem mk_v0 {z : Nat → Bool} {v : Nat → Nat} (h : mk_vs z v 0) : v 0 = 100 := by
  rcases h.2 with e | ⟨y, a, b, _⟩
  · exact e
  · have := mk_sub_le a; omega
theorem mk_v_le {nt : Nat → Int32} {P : Nat} {v : Nat → Nat} (hv : ∀ s, s < 2 ^ P → mk_vs (mk_Z nt) v s) : ∀ (n s : Nat), s ≤ n → s < 2 ^ P → mk_Z nt s = true → v s ≤ 100 + mk_x0 (mk_Z nt) P s := by
  intro n
  induction n with
  | zero =>
    intro s h hP _
    rw [show s = 0 by omega] at hP ⊢
    rw [mk_v0 (hv 0 hP)]; omega
  | succ n ih =>
    intro s h hP hz
    rcases (hv s hP).2 with e | ⟨y, a, b, c, e⟩
    · rw [e]; split <;> omega
    · have l := mk_dif_lt (mk_sub_and.mp a) b
      have z' := mk_Z_dif (mk_sub_and.mp a) hz c
      have := ih _ (by omega) (by omega) z'
      obtain ⟨i, d, _⟩ := mk_more (t := 0) (s := y) (fun i h => by rw [Nat.zero_testBit] at h; exact absurd h (by decide)) (by omega)
      have x1 := mk_x_lo (z := mk_Z nt) (mk_bit_lt hP (a i d)) (a i d)
      have l2 := mk_one_lt (a i d)
      have x2 := mk_x_mono (z := mk_Z nt) (P := P) _ (mk_dif s (2 ^ i)) (mk_dif s y) (Nat.le_refl _) (by omega) (fun j hj => by
        rw [mk_dif_bit] at hj ⊢
        rw [Bool.and_eq_true] at hj
        rw [hj.1, mk_one_bit, Bool.true_and]
        have : ¬ i = j := fun w => by rw [← w, d] at hj; exact absurd hj.2 (by decide)
        rw [decide_eq_false this]; rfl)
      rw [hz] at x1
      simp only [Bool.toNat_true] at x1
      omega
theorem mk_dif_dif {s t : Nat} (h : mk_sub t s) : mk_dif s (mk_dif s t) = t := by
  refine Nat.eq_of_testBit_eq (fun i => ?_)
  rw [mk_dif_bit, mk_dif_bit]
  cases a : t.testBit i
  · cases s.testBit i <;> rfl
  · rw [h i a]; rfl
theorem mk_v_ge {nt : Nat → Int32} {P : Nat} {v : Nat → Nat} (hv : ∀ s, s < 2 ^ P → mk_vs (mk_Z nt) v s) : ∀ (n s : Nat), s ≤ n → s < 2 ^ P → ∃ t, mk_sub t s ∧ mk_Z nt t = true ∧ 100 + mk_x0 (mk_Z nt) P s ≤ v t := by
  have z0 : mk_Z nt 0 = true := by
    unfold mk_Z
    rw [decide_eq_true_eq]
    simp [mk_ns]
  have h00 : (0 : Nat) < 2 ^ P := Nat.two_pow_pos P
  have v0 := mk_v0 (hv 0 h00)
  have s0 : ∀ s, mk_sub 0 s := fun s i h => by rw [Nat.zero_testBit] at h; exact absurd h (by decide)
  intro n
  induction n with
  | zero =>
    intro s h hP
    rw [show s = 0 by omega]
    exact ⟨0, s0 0, z0, by rw [mk_x0_0, v0]; omega⟩
  | succ n ih =>
    intro s h hP
    by_cases hs : s = 0
    · rw [hs]
      exact ⟨0, s0 0, z0, by rw [mk_x0_0, v0]; omega⟩
    have up := mk_x_up (z := mk_Z nt) (P := P) (s := s) (by omega)
    cases hz : mk_Z nt s
    · rw [hz] at up
      rcases up with e | ⟨i, a, b, e⟩
      · refine ⟨0, s0 s, z0, ?_⟩
        rw [e, v0]; exact Nat.le_refl _
      · have l := mk_one_lt b
        obtain ⟨t, t1, t2, t3⟩ := ih (mk_dif s (2 ^ i)) (by omega) (by omega)
        refine ⟨t, fun j hj => mk_dif_sub j (t1 j hj), t2, ?_⟩
        rw [e]
        exact t3
    · rw [hz] at up
      refine ⟨s, fun _ q => q, hz, ?_⟩
      simp only [Bool.toNat_true] at up
      rcases up with e | ⟨i, a, b, e⟩
      · have := (hv s hP).1 s (fun _ q => q) (by omega) hz
        have e2 : mk_dif s s = 0 := mk_dif_0.mpr (fun _ q => q)
        rw [e2, v0] at this
        omega
      · have l := mk_one_lt b
        obtain ⟨t, t1, t2, t3⟩ := ih (mk_dif s (2 ^ i)) (by omega) (by omega)
        have ts : mk_sub t s := fun j hj => mk_dif_sub j (t1 j hj)
        have nz : 0 < mk_dif s t := by
          refine Nat.pos_of_ne_zero (fun q => ?_)
          have h1 := mk_dif_0.mp q i b
          have h2 := t1 i h1
          rw [mk_dif_bit, mk_one_bit, decide_eq_true rfl, Bool.not_true, Bool.and_false] at h2
          exact absurd h2 (by decide)
        have := (hv s hP).1 (mk_dif s t) mk_dif_sub nz (mk_Z_dif (mk_sub_and.mp ts) hz t2)
        rw [mk_dif_dif ts] at this
        omega
theorem mk_v_eq {nt : Nat → Int32} {P : Nat} {v : Nat → Nat} (hv : ∀ s, s < 2 ^ P → mk_vs (mk_Z nt) v s) {s : Nat} (hP : s < 2 ^ P) (hz : mk_Z nt s = true) : v s = 100 + mk_x0 (mk_Z nt) P s := by
  have h1 := mk_v_le hv s s (Nat.le_refl _) hP hz
  obtain ⟨t, t1, t2, t3⟩ := mk_v_ge hv s s (Nat.le_refl _) hP
  by_cases e : t = s
  · rw [e] at t3; omega
  · have nz : 0 < mk_dif s t := by
      refine Nat.pos_of_ne_zero (fun q => e (Nat.eq_of_testBit_eq (fun i => ?_)))
      cases a : s.testBit i
      · cases b : t.testBit i
        · rfl
        · rw [t1 i b] at a; exact absurd a (by decide)
      · exact mk_dif_0.mp q i a
    have := (hv s hP).1 (mk_dif s t) mk_dif_sub nz (mk_Z_dif (mk_sub_and.mp t1) hz t2)
    rw [mk_dif_dif t1] at this
    omega
