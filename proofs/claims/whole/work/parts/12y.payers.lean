/-! payers in pure words: who can pay at once out of a set; the class's table -/
def mk_can (C : Nat → Nat → Bool) (g s : Nat) : Prop := ∃ f : Nat → Nat, (∀ p, g.testBit p = true → C p (f p) = true ∧ mk_sub (f p) s) ∧ ∀ p q, g.testBit p = true → g.testBit q = true → ¬ p = q → f p &&& f q = 0
theorem mk_can_0 {C : Nat → Nat → Bool} {s : Nat} : mk_can C 0 s := ⟨fun _ => 0, fun p h => by rw [Nat.zero_testBit] at h; exact absurd h (by decide), fun p q h => by rw [Nat.zero_testBit] at h; exact absurd h (by decide)⟩
theorem mk_and0 {x y : Nat} : x &&& y = 0 ↔ ∀ i, x.testBit i = true → y.testBit i = false := by
  constructor
  · intro h i hi
    have := congrArg (fun z => z.testBit i) h
    simp only [Nat.testBit_and, hi, Bool.true_and, Nat.zero_testBit] at this
    exact this
  · intro h
    refine Nat.eq_of_testBit_eq (fun i => ?_)
    rw [Nat.testBit_and, Nat.zero_testBit]
    cases a : x.testBit i
    · rfl
    · rw [h i a]; rfl
theorem mk_can_ex {C : Nat → Nat → Bool} {g s p : Nat} (hp : g.testBit p = true) : mk_can C g s ↔ ∃ b, mk_sub b s ∧ C p b = true ∧ mk_can C (mk_dif g (2 ^ p)) (mk_dif s b) := by
  constructor
  · rintro ⟨f, h1, h2⟩
    refine ⟨f p, (h1 p hp).2, (h1 p hp).1, f, fun q hq => ?_, fun q q' hq hq' hne => ?_⟩
    · rw [mk_dif_bit, mk_one_bit, Bool.and_eq_true] at hq
      have ne : ¬ p = q := fun e => by rw [e, decide_eq_true rfl] at hq; exact absurd hq.2 (by decide)
      refine ⟨(h1 q hq.1).1, fun i hi => ?_⟩
      rw [mk_dif_bit, (h1 q hq.1).2 i hi, mk_and0.mp (h2 q p hq.1 hp (fun e => ne e.symm)) i hi]; rfl
    · rw [mk_dif_bit, Bool.and_eq_true] at hq hq'
      exact h2 q q' hq.1 hq'.1 hne
  · rintro ⟨b, b1, b2, f, h1, h2⟩
    have d : ∀ q, g.testBit q = true → ¬ q = p → (mk_dif g (2 ^ p)).testBit q = true := fun q hq hne => by
      rw [mk_dif_bit, hq, mk_one_bit, decide_eq_false (fun e => hne e.symm)]; rfl
    refine ⟨fun q => if q = p then b else f q, fun q hq => ?_, fun q q' hq hq' hne => ?_⟩
    · by_cases e : q = p
      · dsimp only; rw [if_pos e, e]; exact ⟨b2, b1⟩
      · dsimp only; rw [if_neg e]
        exact ⟨(h1 q (d q hq e)).1, fun i hi => mk_dif_sub i ((h1 q (d q hq e)).2 i hi)⟩
    · have out : ∀ x, g.testBit x = true → ¬ x = p → f x &&& b = 0 := fun x hx hne => mk_and0.mpr (fun i hi => by
        have := (h1 x (d x hx hne)).2 i hi
        rw [mk_dif_bit, Bool.and_eq_true] at this
        cases c : b.testBit i
        · rfl
        · rw [c] at this; exact absurd this.2 (by decide))
      dsimp only
      by_cases e : q = p
      · rw [if_pos e, if_neg (fun e' => hne (e.trans e'.symm)), Nat.and_comm]
        exact out q' hq' (fun e' => hne (e.trans e'.symm))
      · rw [if_neg e]
        by_cases e' : q' = p
        · rw [if_pos e']; exact out q hq e
        · rw [if_neg e']; exact h2 q q' (d q hq e) (d q' hq' e') hne
/-- groups of the first n persons that can pay at once out of s -/
def mk_gr (C : Nat → Nat → Bool) (o n g s : Nat) : Prop := g < 2 ^ n ∧ mk_sub g o ∧ mk_can C g s
theorem mk_gr_0 {C : Nat → Nat → Bool} {o g s : Nat} : mk_gr C o 0 g s ↔ g = 0 := by
  constructor
  · rintro ⟨h, _, _⟩; rw [Nat.pow_zero] at h; omega
  · rintro rfl; exact ⟨by decide, fun i h => by rw [Nat.zero_testBit] at h; exact absurd h (by decide), mk_can_0⟩
theorem mk_gr_no {C : Nat → Nat → Bool} {o n g s : Nat} (h : o.testBit n = false) : mk_gr C o (n + 1) g s ↔ mk_gr C o n g s := by
  constructor
  · rintro ⟨a, b, c⟩
    refine ⟨?_, b, c⟩
    have hb : g.testBit n = false := by
      cases e : g.testBit n
      · rfl
      · rw [b n e] at h; exact absurd h (by decide)
    refine Nat.lt_pow_two_of_testBit g (fun i hi => ?_)
    by_cases e : i = n
    · rw [e]; exact hb
    · exact Nat.testBit_lt_two_pow (Nat.lt_of_lt_of_le a (Nat.pow_le_pow_right (by omega) (by omega)))
  · rintro ⟨a, b, c⟩
    exact ⟨Nat.lt_of_lt_of_le a (Nat.pow_le_pow_right (by omega) (by omega)), b, c⟩
theorem mk_top {g n : Nat} (h : g < 2 ^ n) : (2 ^ n + g).testBit n = true ∧ mk_dif (2 ^ n + g) (2 ^ n) = g := by
  have t : (2 ^ n + g).testBit n = true := by rw [Nat.testBit_two_pow_add_eq, Nat.testBit_lt_two_pow h]; rfl
  refine ⟨t, Nat.eq_of_testBit_eq (fun i => ?_)⟩
  rw [mk_dif_bit, mk_one_bit]
  rcases Nat.lt_trichotomy i n with e | e | e
  · rw [Nat.testBit_two_pow_add_gt e, decide_eq_false (show ¬ n = i by omega)]; simp
  · rw [e, decide_eq_true rfl, Nat.testBit_lt_two_pow h]; simp
  · have h1 : 2 ^ (n + 1) ≤ 2 ^ i := Nat.pow_le_pow_right (by omega) (by omega)
    rw [Nat.pow_succ] at h1
    rw [Nat.testBit_lt_two_pow (show 2 ^ n + g < 2 ^ i by omega), Nat.testBit_lt_two_pow (show g < 2 ^ i by omega)]; rfl
theorem mk_gr_yes {C : Nat → Nat → Bool} {o n g s : Nat} (h : o.testBit n = true) : mk_gr C o (n + 1) g s ↔ (mk_gr C o n g s ∨ ∃ b, mk_sub b s ∧ C n b = true ∧ 2 ^ n ≤ g ∧ mk_gr C o n (g - 2 ^ n) (mk_dif s b)) := by
  constructor
  · rintro ⟨a, b, c⟩
    rw [Nat.pow_succ] at a
    by_cases l : g < 2 ^ n
    · exact Or.inl ⟨l, b, c⟩
    · obtain ⟨t1, t2⟩ := mk_top (g := g - 2 ^ n) (n := n) (by omega)
      rw [show 2 ^ n + (g - 2 ^ n) = g by omega] at t1 t2
      obtain ⟨x, x1, x2, x3⟩ := (mk_can_ex t1).mp c
      rw [t2] at x3
      refine Or.inr ⟨x, x1, x2, by omega, by omega, fun i hi => ?_, x3⟩
      rw [← t2, mk_dif_bit, Bool.and_eq_true] at hi
      exact b i hi.1
  · rintro (⟨a, b, c⟩ | ⟨x, x1, x2, x3, a, b, c⟩)
    · exact ⟨Nat.lt_of_lt_of_le a (Nat.pow_le_pow_right (by omega) (by omega)), b, c⟩
    · obtain ⟨t1, t2⟩ := mk_top a
      rw [show 2 ^ n + (g - 2 ^ n) = g by omega] at t1 t2
      refine ⟨by rw [Nat.pow_succ]; omega, fun i hi => ?_, (mk_can_ex t1).mpr ⟨x, x1, x2, by rw [t2]; exact c⟩⟩
      by_cases e : n = i
      · rw [← e]; exact h
      · refine b i ?_
        rw [← t2, mk_dif_bit, hi, mk_one_bit, decide_eq_false e]; rfl
/-- the first of the greatest groups -/
noncomputable def mk_gst (G : Nat → Prop) : Nat → Nat
  | 0 => 0
  | n + 1 => @ite _ (G n ∧ mk_pc (mk_gst G n) < mk_pc n) (Classical.propDecidable _) n (mk_gst G n)
theorem mk_gst_le {G : Nat → Prop} : ∀ n, mk_gst G n ≤ n
  | 0 => Nat.le_refl _
  | n + 1 => by
    have := mk_gst_le (G := G) n
    unfold mk_gst
    split <;> omega
theorem mk_ws_mono {A : mk_A} {E : mk_E} {r : Nat → Nat} {a b : Nat} (h : mk_sub a b) : mk_ws A E r a ≤ mk_ws A E r b := by
  have : ∀ n, mk_wn A E r a n ≤ mk_wn A E r b n := by
    intro n
    induction n with
    | zero => exact Nat.le_refl _
    | succ n ih =>
      show mk_wn A E r a n + (if a.testBit n = true then mk_w A E r n else 0) ≤ mk_wn A E r b n + (if b.testBit n = true then mk_w A E r n else 0)
      by_cases c : a.testBit n = true
      · rw [if_pos c, if_pos (h n c)]; omega
      · rw [if_neg c]; omega
  exact this (A 263 1)
theorem mn_shl64' {x : Int64} {n g : Nat} (hn : n < 6) (hg : g < 64) : (x <<< (Int32.toInt64 ((1 : Int32) <<< (Int32.ofNat n &&& 31)) &&& 63)).toBitVec.getLsbD g = (decide (2 ^ n ≤ g) && x.toBitVec.getLsbD (g - 2 ^ n)) := by
  have key : (x <<< (Int32.toInt64 ((1 : Int32) <<< (Int32.ofNat n &&& 31)) &&& 63)).toBitVec = x.toBitVec <<< (2 ^ n : Nat) := by
    have : n = 0 ∨ n = 1 ∨ n = 2 ∨ n = 3 ∨ n = 4 ∨ n = 5 := by omega
    rcases this with rfl | rfl | rfl | rfl | rfl | rfl <;> rfl
  rw [key, BitVec.getLsbD_shiftLeft]
  have h2 : 2 ^ n ≤ 32 := Nat.pow_le_pow_right (n := 2) (by omega) (show n ≤ 5 by omega)
  by_cases c : 2 ^ n ≤ g
  · rw [decide_eq_true c, decide_eq_true (show g < 64 from hg), decide_eq_false (show ¬ g < 2 ^ n by omega)]; rfl
  · rw [decide_eq_false c, decide_eq_true (show g < 2 ^ n by omega)]; simp
