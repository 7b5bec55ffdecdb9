/-! nights in pure words; the mass never grows -/
def mk_lv (A : mk_A) (U q : Nat) : Nat → Nat
  | 0 => 1000000
  | i + 1 => if (U.testBit i && mk_sp A i) = true then mk_lv A U q i * (10 - (mk_chc A i q - 1)) / 10 else mk_lv A U q i
def mk_hr (A : mk_A) (U q : Nat) : Nat := 1000000 - mk_lv A U q (A 263 0)
def mk_sh (hr : Nat → Nat) (U T : Nat) : Nat → Nat
  | 0 => 1000000
  | i + 1 => if U.testBit i = true then mk_sh hr U T i else mk_sh hr U T i * (if T.testBit i = true then hr i else 1000000 - hr i) / 1000000
def mk_nt (A : mk_A) (d : Nat → Nat) (T : Nat) : Nat := mk_sum (fun U => if U &&& T = U then mk_sh (mk_hr A U) U T (A 263 0) * d U / 1000000 else 0) (2 ^ A 263 0)
def mk_nts (A : mk_A) (k : Nat) : Nat → Nat → Nat
  | 0 => fun s => if s = k then 1000000 else 0
  | n + 1 => mk_nt A (mk_nts A k n)
theorem mk_lv_le {A : mk_A} {U q : Nat} : ∀ n, mk_lv A U q n ≤ 1000000
  | 0 => Nat.le_refl _
  | n + 1 => by
    have ih := mk_lv_le (A := A) (U := U) (q := q) n
    unfold mk_lv
    split
    · have : mk_lv A U q n * (10 - (mk_chc A n q - 1)) ≤ mk_lv A U q n * 10 := Nat.mul_le_mul_left _ (by omega)
      omega
    · exact ih
theorem mk_sum_add (f : Nat → Nat) (a : Nat) : ∀ b, mk_sum f (a + b) = mk_sum f a + mk_sum (fun x => f (a + x)) b
  | 0 => rfl
  | b + 1 => by
    show mk_sum f (a + b) + f (a + b) = _
    rw [mk_sum_add f a b]
    show _ = mk_sum f a + (mk_sum (fun x => f (a + x)) b + f (a + b))
    omega
theorem mk_sum_le2 {f g : Nat → Nat} : ∀ n, (∀ i, i < n → f i ≤ g i) → mk_sum f n ≤ mk_sum g n
  | 0, _ => Nat.le_refl _
  | n + 1, h => by
    have := mk_sum_le2 n (fun i hi => h i (by omega))
    have := h n (by omega)
    show mk_sum f n + f n ≤ mk_sum g n + g n
    omega
theorem mk_sum_two (f g : Nat → Nat) : ∀ n, mk_sum f n + mk_sum g n = mk_sum (fun i => f i + g i) n
  | 0 => rfl
  | n + 1 => by
    have := mk_sum_two f g n
    show mk_sum f n + f n + (mk_sum g n + g n) = mk_sum (fun i => f i + g i) n + (f n + g n)
    omega
theorem mk_sum_zero : ∀ n, mk_sum (fun _ => 0) n = 0
  | 0 => rfl
  | n + 1 => by show mk_sum (fun _ => 0) n + 0 = 0; rw [mk_sum_zero n]
theorem mk_sum_swap (f : Nat → Nat → Nat) (m : Nat) : ∀ n, mk_sum (fun t => mk_sum (fun x => f x t) m) n = mk_sum (fun x => mk_sum (fun t => f x t) n) m
  | 0 => (mk_sum_zero m).symm
  | n + 1 => by
    show mk_sum (fun t => mk_sum (fun x => f x t) m) n + mk_sum (fun x => f x n) m = _
    rw [mk_sum_swap f m n, mk_sum_two]
    rfl
theorem mk_sum_mul (f : Nat → Nat) (d : Nat) : ∀ n, mk_sum (fun i => f i * d) n = mk_sum f n * d
  | 0 => (Nat.zero_mul d).symm
  | n + 1 => by
    show mk_sum (fun i => f i * d) n + f n * d = (mk_sum f n + f n) * d
    rw [mk_sum_mul f d n, Nat.add_mul]
theorem mk_sh_congr {hr : Nat → Nat} {U T T' : Nat} : ∀ n, (∀ i, i < n → T.testBit i = T'.testBit i) → mk_sh hr U T n = mk_sh hr U T' n
  | 0, _ => rfl
  | n + 1, h => by
    unfold mk_sh
    rw [mk_sh_congr n (fun i hi => h i (by omega)), h n (by omega)]
/-- all that are told: what U shares never passes the whole -/
def mk_in (U T n : Nat) : Bool := mk_al (fun i => !U.testBit i || T.testBit i) n
theorem mk_sh_sum {hr : Nat → Nat} {U : Nat} (hh : ∀ i, hr i ≤ 1000000) : ∀ n, mk_sum (fun T => if mk_in U T n = true then mk_sh hr U T n else 0) (2 ^ n) ≤ 1000000
  | 0 => by
    show (0 + if mk_in U 0 0 = true then 1000000 else 0) ≤ 1000000
    split <;> omega
  | n + 1 => by
    have ih := mk_sh_sum (U := U) hh n
    rw [show 2 ^ (n + 1) = 2 ^ n + 2 ^ n by rw [Nat.pow_succ]; omega, mk_sum_add, mk_sum_two]
    refine Nat.le_trans (mk_sum_le2 _ (fun T hT => ?_)) ih
    have b0 : T.testBit n = false := Nat.testBit_lt_two_pow hT
    have b1 : (2 ^ n + T).testBit n = true := (mk_top hT).1
    have bl : ∀ i, i < n → (2 ^ n + T).testBit i = T.testBit i := fun i hi => Nat.testBit_two_pow_add_gt hi _
    have i1 : mk_in U (2 ^ n + T) n = mk_in U T n := by
      have : ∀ m, m ≤ n → mk_in U (2 ^ n + T) m = mk_in U T m := by
        intro m
        induction m with
        | zero => intro _; rfl
        | succ m ih =>
          intro hm
          show (mk_in U (2 ^ n + T) m && _) = (mk_in U T m && _)
          rw [ih (by omega)]
          dsimp only
          rw [bl m (by omega)]
      exact this n (Nat.le_refl _)
    have e0 : mk_in U T (n + 1) = (mk_in U T n && !U.testBit n) := by
      show (mk_in U T n && (!U.testBit n || T.testBit n)) = _
      rw [b0, Bool.or_false]
    have e1 : mk_in U (2 ^ n + T) (n + 1) = mk_in U T n := by
      show (mk_in U (2 ^ n + T) n && (!U.testBit n || (2 ^ n + T).testBit n)) = _
      rw [b1, Bool.or_true, Bool.and_true, i1]
    have s0 : mk_sh hr U T (n + 1) = if U.testBit n = true then mk_sh hr U T n else mk_sh hr U T n * (1000000 - hr n) / 1000000 := by
      show (if U.testBit n = true then mk_sh hr U T n else mk_sh hr U T n * (if T.testBit n = true then hr n else 1000000 - hr n) / 1000000) = _
      rw [b0, if_neg (show ¬ false = true by decide)]
    have s1 : mk_sh hr U (2 ^ n + T) (n + 1) = if U.testBit n = true then mk_sh hr U T n else mk_sh hr U T n * hr n / 1000000 := by
      show (if U.testBit n = true then mk_sh hr U (2 ^ n + T) n else mk_sh hr U (2 ^ n + T) n * (if (2 ^ n + T).testBit n = true then hr n else 1000000 - hr n) / 1000000) = _
      rw [b1, if_pos (show true = true from rfl), mk_sh_congr n bl]
    rw [e0, e1, s0, s1]
    cases c : mk_in U T n
    · rw [Bool.false_and, if_neg (show ¬ false = true by decide), if_neg (show ¬ false = true by decide)]
      exact Nat.zero_le _
    · rw [Bool.true_and, if_pos (show true = true from rfl)]
      cases d : U.testBit n
      · rw [if_pos (show (!false) = true from rfl), if_neg (show ¬ false = true by decide), if_neg (show ¬ false = true by decide), if_pos (show true = true from rfl)]
        have := hh n
        generalize mk_sh hr U T n = a
        generalize hr n = x at *
        have e : a * (1000000 - x) + a * x = a * 1000000 := by rw [← Nat.mul_add]; congr 1; omega
        omega
      · rw [if_neg (show ¬ (!true) = true by decide), if_pos (show true = true from rfl), if_pos (show true = true from rfl), Nat.zero_add]
        exact Nat.le_refl _
theorem mk_in_and {U T P : Nat} (hU : U < 2 ^ P) : (U &&& T = U) ↔ mk_in U T P = true := by
  rw [← mk_sub_and]
  constructor
  · intro h
    refine mk_al_t P (fun i _ => ?_)
    cases c : U.testBit i
    · rfl
    · rw [h i c]; rfl
  · intro h i hi
    have iP := mk_bit_lt hU hi
    cases c : T.testBit i
    · have : mk_in U T P = false := mk_al_f (f := fun i => !U.testBit i || T.testBit i) (i := i) (by rw [hi, c]; rfl) P iP
      rw [this] at h; exact absurd h (by decide)
    · rfl
theorem mk_nt_mass {A : mk_A} {d : Nat → Nat} : mk_sum (mk_nt A d) (2 ^ A 263 0) ≤ mk_sum d (2 ^ A 263 0) := by
  show mk_sum (fun T => mk_sum (fun U => if U &&& T = U then mk_sh (mk_hr A U) U T (A 263 0) * d U / 1000000 else 0) (2 ^ A 263 0)) (2 ^ A 263 0) ≤ _
  rw [mk_sum_swap (fun U T => if U &&& T = U then mk_sh (mk_hr A U) U T (A 263 0) * d U / 1000000 else 0)]
  refine mk_sum_le2 _ (fun U hU => ?_)
  have h1 := mk_sh_sum (hr := mk_hr A U) (U := U) (fun i => Nat.sub_le _ _) (A 263 0)
  have h2 : mk_sum (fun T => (if U &&& T = U then mk_sh (mk_hr A U) U T (A 263 0) * d U / 1000000 else 0) * 1000000) (2 ^ A 263 0) ≤ mk_sum (fun T => (if mk_in U T (A 263 0) = true then mk_sh (mk_hr A U) U T (A 263 0) else 0) * d U) (2 ^ A 263 0) := by
    refine mk_sum_le2 _ (fun T _ => ?_)
    by_cases c : U &&& T = U
    · rw [if_pos c, if_pos ((mk_in_and hU).mp c)]
      exact Nat.div_mul_le_self _ _
    · rw [if_neg c, Nat.zero_mul]; exact Nat.zero_le _
  rw [mk_sum_mul, mk_sum_mul] at h2
  have h3 := Nat.mul_le_mul_right (d U) h1
  omega
theorem mk_sum_ge {f : Nat → Nat} {i : Nat} : ∀ n, i < n → f i ≤ mk_sum f n
  | 0, h => absurd h (by omega)
  | n + 1, h => by
    show f i ≤ mk_sum f n + f n
    by_cases e : i = n
    · rw [e]; omega
    · have := mk_sum_ge (f := f) n (show i < n by omega)
      omega
theorem mk_nts_mass {A : mk_A} {k : Nat} : ∀ n, mk_sum (mk_nts A k n) (2 ^ A 263 0) ≤ 1000000
  | 0 => by
    have : ∀ m, mk_sum (fun s => if s = k then 1000000 else 0) m ≤ (if k < m then 1000000 else 0) := by
      intro m
      induction m with
      | zero => exact Nat.zero_le _
      | succ m ih =>
        show mk_sum (fun s => if s = k then 1000000 else 0) m + (if m = k then 1000000 else 0) ≤ _
        by_cases c : m = k
        · rw [if_neg (show ¬ k < m by omega)] at ih
          rw [if_pos c, if_pos (by omega)]; omega
        · rw [if_neg c]
          by_cases q : k < m
          · rw [if_pos q] at ih; rw [if_pos (by omega)]; omega
          · rw [if_neg q] at ih; omega
    refine Nat.le_trans (this (2 ^ A 263 0)) ?_
    split <;> omega
  | n + 1 => Nat.le_trans mk_nt_mass (mk_nts_mass n)
theorem mk_nts_le {A : mk_A} {k n s : Nat} (hs : s < 2 ^ A 263 0) : mk_nts A k n s ≤ 1000000 := Nat.le_trans (mk_sum_ge _ hs) (mk_nts_mass n)
