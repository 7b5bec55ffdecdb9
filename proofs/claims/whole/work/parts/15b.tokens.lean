/-! TOKENS: a tape s = (how many signs, the signs), a token begins at b -/
abbrev mk_S := Nat × (Nat → Nat)
def mk_bl (x : Nat) : Bool := decide (x = 10) || decide (x = 32)
def mk_lt (x : Nat) : Bool := decide (97 ≤ x) && decide (x ≤ 122)
def mk_dgt (x : Nat) : Bool := decide (48 ≤ x) && decide (x ≤ 57)
def mk_sgn (x : Nat) : Bool := decide (x = 40) || decide (x = 41) || decide (x = 42) || decide (x = 43) || decide (x = 45) || decide (x = 59) || decide (x = 60) || decide (x = 61)
theorem mk_lt_iff {x : Nat} : mk_lt x = true ↔ 97 ≤ x ∧ x ≤ 122 := by unfold mk_lt; rw [Bool.and_eq_true, decide_eq_true_eq, decide_eq_true_eq]
theorem mk_dgt_iff {x : Nat} : mk_dgt x = true ↔ 48 ≤ x ∧ x ≤ 57 := by unfold mk_dgt; rw [Bool.and_eq_true, decide_eq_true_eq, decide_eq_true_eq]
theorem mk_bl_iff {x : Nat} : mk_bl x = true ↔ x = 10 ∨ x = 32 := by unfold mk_bl; rw [Bool.or_eq_true, decide_eq_true_eq, decide_eq_true_eq]
def mk_adv (f : Nat → Bool) (w : Nat → Nat) : Nat → Nat → Nat
  | 0, p => p
  | k + 1, p => if f (w p) = true then mk_adv f w k (p + 1) else p
def mk_to (f : Nat → Bool) (s : mk_S) (p : Nat) : Nat := mk_adv f s.2 (s.1 - p) p
theorem mk_to_n {f : Nat → Bool} {s : mk_S} {p : Nat} (h : s.1 ≤ p) : mk_to f s p = p := by
  unfold mk_to
  rw [show s.1 - p = 0 by omega]; rfl
theorem mk_to_s {f : Nat → Bool} {s : mk_S} {p : Nat} (h : p < s.1) (hf : f (s.2 p) = true) : mk_to f s p = mk_to f s (p + 1) := by
  unfold mk_to
  rw [show s.1 - p = (s.1 - (p + 1)) + 1 by omega]
  exact if_pos hf
theorem mk_to_f {f : Nat → Bool} {s : mk_S} {p : Nat} (hf : f (s.2 p) = false) : mk_to f s p = p := by
  unfold mk_to
  cases s.1 - p with
  | zero => rfl
  | succ k => exact if_neg (by rw [hf]; decide)
theorem mk_to_ge {f : Nat → Bool} {s : mk_S} : ∀ (k p : Nat), s.1 - p = k → p ≤ mk_to f s p ∧ (p ≤ s.1 → mk_to f s p ≤ s.1) ∧ (mk_to f s p < s.1 → f (s.2 (mk_to f s p)) = false) ∧ ∀ j, p ≤ j → j < mk_to f s p → f (s.2 j) = true := by
  intro k
  induction k with
  | zero =>
    intro p h
    rw [mk_to_n (by omega)]
    exact ⟨Nat.le_refl _, fun h => h, fun h => by omega, fun j h1 h2 => by omega⟩
  | succ k ih =>
    intro p h
    cases c : f (s.2 p)
    · rw [mk_to_f c]
      exact ⟨Nat.le_refl _, fun h => h, fun _ => c, fun j h1 h2 => by omega⟩
    · rw [mk_to_s (by omega) c]
      obtain ⟨i1, i2, i3, i4⟩ := ih (p + 1) (by omega)
      refine ⟨by omega, fun _ => i2 (by omega), i3, fun j h1 h2 => ?_⟩
      by_cases e : j = p
      · rw [e]; exact c
      · exact i4 j (by omega) h2
theorem mk_to_a {f : Nat → Bool} {s : mk_S} (p : Nat) : p ≤ mk_to f s p ∧ (p ≤ s.1 → mk_to f s p ≤ s.1) ∧ (mk_to f s p < s.1 → f (s.2 (mk_to f s p)) = false) ∧ ∀ j, p ≤ j → j < mk_to f s p → f (s.2 j) = true := mk_to_ge _ p rfl
/-- where the token that begins at b ends -/
def mk_en (s : mk_S) (b : Nat) : Nat := if s.1 ≤ b then b else if mk_lt (s.2 b) = true then mk_to mk_lt s b else if mk_dgt (s.2 b) = true then mk_to mk_dgt s b else b + 1
/-- its kind: 0 the end, 1 a word, 2 a number, 3 a sign, 4 nothing -/
def mk_kd (s : mk_S) (b : Nat) : Nat := if s.1 ≤ b then 0 else if mk_lt (s.2 b) = true then (if mk_en s b - b ≤ 8 then 1 else 4) else if mk_dgt (s.2 b) = true then (if mk_en s b - b ≤ 4 then 2 else 4) else if mk_sgn (s.2 b) = true then 3 else 4
def mk_wd (s : mk_S) (b i : Nat) : Nat := if i = 0 then mk_en s b - b else s.2 (b + i - 1) - 96
def mk_dec (s : mk_S) (b : Nat) : Nat → Nat
  | 0 => 0
  | k + 1 => mk_dec s b k * 10 + (s.2 (b + k) - 48)
def mk_nu (s : mk_S) (b : Nat) : Nat := mk_dec s b (mk_en s b - b)
/-- the next token begins here -/
def mk_ntk (s : mk_S) (b : Nat) : Nat := mk_to mk_bl s (mk_en s b)
theorem mk_en_le {s : mk_S} {b : Nat} (h : b ≤ s.1) : b ≤ mk_en s b ∧ mk_en s b ≤ s.1 := by
  unfold mk_en
  by_cases c : s.1 ≤ b
  · rw [if_pos c]; omega
  · rw [if_neg c]
    have a1 := mk_to_a (f := mk_lt) (s := s) b
    have a2 := mk_to_a (f := mk_dgt) (s := s) b
    split
    · exact ⟨a1.1, a1.2.1 h⟩
    · split
      · exact ⟨a2.1, a2.2.1 h⟩
      · omega
theorem mk_en_lt {s : mk_S} {b : Nat} (h : b < s.1) : b < mk_en s b := by
  unfold mk_en
  rw [if_neg (by omega)]
  by_cases c : mk_lt (s.2 b) = true
  · rw [if_pos c, mk_to_s h c]
    have := (mk_to_a (f := mk_lt) (s := s) (b + 1)).1
    omega
  · rw [if_neg c]
    by_cases d : mk_dgt (s.2 b) = true
    · rw [if_pos d, mk_to_s h d]
      have := (mk_to_a (f := mk_dgt) (s := s) (b + 1)).1
      omega
    · rw [if_neg d]; omega
theorem mk_ntk_le {s : mk_S} {b : Nat} (h : b ≤ s.1) : mk_en s b ≤ mk_ntk s b ∧ mk_ntk s b ≤ s.1 := by
  have a1 := mk_to_a (f := mk_bl) (s := s) (mk_en s b)
  exact ⟨a1.1, a1.2.1 (mk_en_le h).2⟩
theorem mk_kd_0 {s : mk_S} {b : Nat} : mk_kd s b = 0 ↔ s.1 ≤ b := by
  unfold mk_kd
  constructor
  · intro h
    by_cases c : s.1 ≤ b
    · exact c
    · rw [if_neg c] at h
      split at h
      · split at h <;> omega
      · split at h
        · split at h <;> omega
        · split at h <;> omega
  · intro h; exact if_pos h
theorem mk_kd_1 {s : mk_S} {b : Nat} (h : mk_kd s b = 1) : b < s.1 ∧ mk_lt (s.2 b) = true ∧ mk_en s b = mk_to mk_lt s b ∧ mk_en s b - b ≤ 8 := by
  unfold mk_kd at h
  by_cases c : s.1 ≤ b
  · rw [if_pos c] at h; omega
  · rw [if_neg c] at h
    by_cases d : mk_lt (s.2 b) = true
    · rw [if_pos d] at h
      refine ⟨by omega, d, by unfold mk_en; rw [if_neg c, if_pos d], ?_⟩
      split at h
      · assumption
      · omega
    · rw [if_neg d] at h
      split at h
      · split at h <;> omega
      · split at h <;> omega
theorem mk_kd_2 {s : mk_S} {b : Nat} (h : mk_kd s b = 2) : b < s.1 ∧ mk_en s b = mk_to mk_dgt s b ∧ mk_en s b - b ≤ 4 := by
  unfold mk_kd at h
  by_cases c : s.1 ≤ b
  · rw [if_pos c] at h; omega
  · rw [if_neg c] at h
    by_cases d : mk_lt (s.2 b) = true
    · rw [if_pos d] at h
      split at h <;> omega
    · rw [if_neg d] at h
      by_cases e : mk_dgt (s.2 b) = true
      · rw [if_pos e] at h
        refine ⟨by omega, by unfold mk_en; rw [if_neg c, if_neg d, if_pos e], ?_⟩
        split at h
        · assumption
        · omega
      · rw [if_neg e] at h
        split at h <;> omega
theorem mk_kd_3 {s : mk_S} {b : Nat} (h : mk_kd s b = 3) : b < s.1 := by
  rcases Nat.lt_or_ge b s.1 with c | c
  · exact c
  · rw [mk_kd_0.mpr c] at h; omega
theorem mk_nm_wd {s : mk_S} {b : Nat} (h : mk_kd s b = 1) : mk_nm (mk_wd s b) := by
  obtain ⟨h1, h2, h3, h4⟩ := mk_kd_1 h
  have g := mk_en_lt h1
  refine ⟨?_, ?_, fun i i1 i2 => ?_⟩
  · unfold mk_wd; rw [if_pos rfl]; omega
  · unfold mk_wd; rw [if_pos rfl]; exact h4
  · unfold mk_wd at i2 ⊢
    rw [if_pos rfl] at i2
    rw [if_neg (by omega)]
    have := mk_lt_iff.mp ((mk_to_a (f := mk_lt) (s := s) b).2.2.2 (b + i - 1) (by omega) (by omega))
    omega
theorem mk_dec_lt {s : mk_S} {b e : Nat} (h : ∀ j, b ≤ j → j < e → mk_dgt (s.2 j) = true) : ∀ k, b + k ≤ e → mk_dec s b k < 10 ^ k
  | 0, _ => by show 0 < 10 ^ 0; omega
  | k + 1, hk => by
    have ih := mk_dec_lt h k (by omega)
    have d := mk_dgt_iff.mp (h (b + k) (by omega) (by omega))
    show mk_dec s b k * 10 + (s.2 (b + k) - 48) < 10 ^ (k + 1)
    rw [Nat.pow_succ]
    omega
theorem mk_nu_lt {s : mk_S} {b : Nat} (h : mk_kd s b = 2) : mk_nu s b < 10000 := by
  obtain ⟨h1, h2, h3⟩ := mk_kd_2 h
  have := mk_dec_lt (s := s) (b := b) (e := mk_en s b) (fun j j1 j2 => (mk_to_a (f := mk_dgt) (s := s) b).2.2.2 j j1 (by rw [← h2]; exact j2)) (mk_en s b - b) (by have := mk_en_le (Nat.le_of_lt h1); omega)
  have p : 10 ^ (mk_en s b - b) ≤ 10 ^ 4 := Nat.pow_le_pow_right (by omega) h3
  unfold mk_nu
  omega
/-! names and words: a code in base 32, a code in base 27 -/
theorem mk_code_s {B : Nat} {w : Nat → Nat} {n : Nat} : mk_code B w (n + 1) = mk_code B w n * B + w (n + 1) := rfl
theorem mk_code_inj {B : Nat} {v w : Nat → Nat} (hB : 27 ≤ B) : ∀ n m, (∀ i, 1 ≤ i → i ≤ n → 1 ≤ v i ∧ v i ≤ 26) → (∀ i, 1 ≤ i → i ≤ m → 1 ≤ w i ∧ w i ≤ 26) → mk_code B v n = mk_code B w m → n = m ∧ ∀ i, 1 ≤ i → i ≤ n → v i = w i
  | 0, 0, _, _, _ => ⟨rfl, fun i h1 h2 => by omega⟩
  | 0, m + 1, _, hw, e => by
    have := hw (m + 1) (by omega) (by omega)
    rw [mk_code_s] at e
    have e' : 0 = mk_code B w m * B + w (m + 1) := e
    omega
  | n + 1, 0, hv, _, e => by
    have := hv (n + 1) (by omega) (by omega)
    rw [mk_code_s] at e
    have e' : mk_code B v n * B + v (n + 1) = 0 := e
    omega
  | n + 1, m + 1, hv, hw, e => by
    have a := hv (n + 1) (by omega) (by omega)
    have b := hw (m + 1) (by omega) (by omega)
    rw [mk_code_s, mk_code_s] at e
    have h1 : (mk_code B v n * B + v (n + 1)) % B = v (n + 1) := by rw [Nat.add_comm, Nat.add_mul_mod_self_right, Nat.mod_eq_of_lt (by omega)]
    have h2 : (mk_code B w m * B + w (m + 1)) % B = w (m + 1) := by rw [Nat.add_comm, Nat.add_mul_mod_self_right, Nat.mod_eq_of_lt (by omega)]
    have h3 : v (n + 1) = w (m + 1) := by rw [← h1, e, h2]
    have h4 : mk_code B v n * B = mk_code B w m * B := by omega
    have h5 : mk_code B v n = mk_code B w m := Nat.eq_of_mul_eq_mul_right (by omega) h4
    obtain ⟨i1, i2⟩ := mk_code_inj hB n m (fun i h1 h2 => hv i h1 (by omega)) (fun i h1 h2 => hw i h1 (by omega)) h5
    refine ⟨by omega, fun i j1 j2 => ?_⟩
    by_cases c : i = n + 1
    · rw [c, h3, i1]
    · exact i2 i j1 (by omega)
theorem mk_code_cg {B : Nat} {v w : Nat → Nat} : ∀ n, (∀ i, 1 ≤ i → i ≤ n → v i = w i) → mk_code B v n = mk_code B w n
  | 0, _ => rfl
  | n + 1, h => by rw [mk_code_s, mk_code_s, mk_code_cg n (fun i h1 h2 => h i h1 (by omega)), h (n + 1) (by omega) (by omega)]
theorem mk_code_lt {B : Nat} {v : Nat → Nat} (hB : 27 ≤ B) : ∀ n, (∀ i, 1 ≤ i → i ≤ n → 1 ≤ v i ∧ v i ≤ 26) → mk_code B v n < B ^ n
  | 0, _ => by show 0 < B ^ 0; rw [Nat.pow_zero]; omega
  | n + 1, h => by
    have ih := mk_code_lt hB n (fun i h1 h2 => h i h1 (by omega))
    have d := h (n + 1) (by omega) (by omega)
    rw [mk_code_s, Nat.pow_succ]
    have : (mk_code B v n + 1) * B ≤ B ^ n * B := Nat.mul_le_mul_right _ ih
    rw [Nat.add_mul] at this
    omega
/-- the same name -/
def mk_c32 (w : Nat → Nat) : Nat := mk_code 32 w (w 0)
def mk_c27 (w : Nat → Nat) : Nat := mk_code 27 w (w 0)
theorem mk_c_lt {w : Nat → Nat} (h : mk_nm w) : mk_c32 w < 2 ^ 62 ∧ mk_c27 w < 2 ^ 62 := by
  have h1 := mk_code_lt (B := 32) (by omega) (w 0) h.2.2
  have h2 := mk_code_lt (B := 27) (by omega) (w 0) h.2.2
  have p1 : 32 ^ w 0 ≤ 32 ^ 8 := Nat.pow_le_pow_right (by omega) h.2.1
  have p2 : 27 ^ w 0 ≤ 27 ^ 8 := Nat.pow_le_pow_right (by omega) h.2.1
  unfold mk_c32 mk_c27
  omega
theorem mk_c_iff {v w : Nat → Nat} (hv : mk_nm v) (hw : mk_nm w) : mk_c27 v = mk_c27 w ↔ mk_c32 v = mk_c32 w := by
  unfold mk_c27 mk_c32
  constructor
  · intro e
    obtain ⟨a, b⟩ := mk_code_inj (by omega) _ _ hv.2.2 hw.2.2 e
    rw [← a]; exact mk_code_cg _ b
  · intro e
    obtain ⟨a, b⟩ := mk_code_inj (by omega) _ _ hv.2.2 hw.2.2 e
    rw [← a]; exact mk_code_cg _ b
theorem mn_eq64 {a b : Nat} (ha : a < 2 ^ 62) (hb : b < 2 ^ 62) : (Int64.ofNat a = Int64.ofNat b) ↔ a = b := by
  constructor
  · intro e
    have h1 : (Int64.ofNat a).toInt = (a : Int) := Int64.toInt_ofNat_of_lt (by omega)
    have h2 : (Int64.ofNat b).toInt = (b : Int) := Int64.toInt_ofNat_of_lt (by omega)
    rw [e, h2] at h1
    omega
  · intro e; rw [e]
theorem mk_c32_eq {v w : Nat → Nat} (hv : mk_nm v) (hw : mk_nm w) : (Int64.ofNat (mk_c32 v) = Int64.ofNat (mk_c32 w)) ↔ mk_c32 v = mk_c32 w := mn_eq64 (mk_c_lt hv).1 (mk_c_lt hw).1
theorem mk_c27_eq {v w : Nat → Nat} (hv : mk_nm v) (hw : mk_nm w) : (Int64.ofNat (mk_c27 v) = Int64.ofNat (mk_c27 w)) ↔ mk_c32 v = mk_c32 w := (mn_eq64 (mk_c_lt hv).2 (mk_c_lt hw).2).trans (mk_c_iff hv hw)
/-- the letters of the language's words -/
def mk_kwl (i : Nat) : List Nat := ([[16, 5, 18, 19, 15, 14], [18, 1, 14, 11], [20, 1, 24], [19, 5, 3, 18, 5, 20], [15, 6], [3, 15, 19, 20, 19], [15, 14], [2, 25], [5, 1, 18], [3, 12, 1, 19, 8], [23, 15, 18, 20, 8], [20, 5, 12, 12], [16, 1, 25], [18, 9, 19, 5], [17, 21, 1, 18, 20, 5, 18], [16, 12, 1, 9, 14], [7, 15, 19, 19, 9, 16], [4, 5, 1, 6], [16, 18, 9, 5, 19, 20], [20, 18, 21, 5], [6, 1, 12, 19, 5], [14, 15, 20], [1, 14, 4], [15, 18], [3, 15, 19, 20], [11, 14, 15, 23, 5, 18, 19], [1, 7, 5], [8, 9, 7, 8]] : List (List Nat)).getD i []
def mk_kw (i j : Nat) : Nat := if j = 0 then (mk_kwl i).length else (mk_kwl i).getD (j - 1) 0
def mk_k27 (i : Nat) : Int64 := ([232608281, 355412, 14631, 275358764, 411, 1903978, 419, 79, 3690, 1831769, 12532058, 397641, 11716, 361373, 6888375828, 8740238, 108802051, 82410, 239329775, 407354, 3217595, 10631, 1111, 423, 70517, 4470938551, 923, 164222] : List Int64).getD i 0
theorem mk_kw_ok : ∀ i, i < 28 → (1 ≤ mk_kw i 0 ∧ mk_kw i 0 ≤ 8 ∧ ∀ j, j < 9 → 1 ≤ j → j ≤ mk_kw i 0 → 1 ≤ mk_kw i j ∧ mk_kw i j ≤ 26) ∧ mm_wc i = Int64.ofNat (mk_c32 (mk_kw i)) ∧ mk_k27 i = Int64.ofNat (mk_c27 (mk_kw i)) := by decide +kernel
theorem mk_kw_nm {i : Nat} (hi : i < 28) : mk_nm (mk_kw i) := by
  obtain ⟨⟨a, b, c⟩, _, _⟩ := mk_kw_ok i hi
  exact ⟨a, b, fun j h1 h2 => c j (by omega) h1 h2⟩
/-- the token at b is the word i -/
def mk_isw (s : mk_S) (b i : Nat) : Prop := mk_kd s b = 1 ∧ mk_c32 (mk_wd s b) = mk_c32 (mk_kw i)
theorem mk_isw_X {s : mk_S} {b i : Nat} (hi : i < 28) (h : mk_kd s b = 1) : mm_wc i = Int64.ofNat (mk_c32 (mk_wd s b)) ↔ mk_isw s b i := by
  rw [(mk_kw_ok i hi).2.1, mk_c32_eq (mk_kw_nm hi) (mk_nm_wd h)]
  exact ⟨fun e => ⟨h, e.symm⟩, fun e => e.2.symm⟩
theorem mk_isw_M {s : mk_S} {b i : Nat} (hi : i < 28) (h : mk_kd s b = 1) : Int64.ofNat (mk_c27 (mk_wd s b)) = mk_k27 i ↔ mk_isw s b i := by
  rw [(mk_kw_ok i hi).2.2, mk_c27_eq (mk_nm_wd h) (mk_kw_nm hi)]
  exact ⟨fun e => ⟨h, e⟩, fun e => e.2⟩
theorem mk_kw_inj : ∀ i, i < 28 → ∀ j, j < 28 → mk_c32 (mk_kw i) = mk_c32 (mk_kw j) → i = j := by decide +kernel
theorem mk_isw_inj {s : mk_S} {b i j : Nat} (hi : i < 28) (hj : j < 28) (h1 : mk_isw s b i) (h2 : mk_isw s b j) : i = j := mk_kw_inj i hi j hj (h1.2.symm.trans h2.2)
/-- the word's cell that the class finds -/
def mk_wif (c : Int64) : Nat → Option Nat
  | 0 => none
  | i + 1 => if lg_cmp (mm_wc i) c = 0 then some i else mk_wif c i
def mk_wo (s : mk_S) (b : Nat) : Option Nat := if mk_kd s b = 1 then mk_wif (Int64.ofNat (mk_c32 (mk_wd s b))) 28 else none
theorem mk_wif_some {c : Int64} {i : Nat} : ∀ n, mk_wif c n = some i → i < n ∧ mm_wc i = c
  | 0, h => nomatch (show (none : Option Nat) = some i from h)
  | n + 1, h => by
    by_cases e : lg_cmp (mm_wc n) c = 0
    · have : mk_wif c (n + 1) = some n := if_pos e
      rw [this] at h
      obtain rfl := Option.some.inj h
      exact ⟨by omega, (mp_lcmp _ _).mp e⟩
    · have : mk_wif c (n + 1) = mk_wif c n := if_neg e
      rw [this] at h
      have := mk_wif_some n h
      exact ⟨by omega, this.2⟩
theorem mk_wif_none {c : Int64} : ∀ n, mk_wif c n = none → ∀ i, i < n → ¬ mm_wc i = c
  | 0, _ => fun i hi => by omega
  | n + 1, h => fun i hi => by
    by_cases e : lg_cmp (mm_wc n) c = 0
    · have : mk_wif c (n + 1) = some n := if_pos e
      rw [this] at h; nomatch h
    · have : mk_wif c (n + 1) = mk_wif c n := if_neg e
      rw [this] at h
      by_cases d : i = n
      · rw [d]; exact fun z => e ((mp_lcmp _ _).mpr z)
      · exact mk_wif_none n h i (by omega)
theorem mk_wo_some {s : mk_S} {b i : Nat} : mk_wo s b = some i ↔ i < 28 ∧ mk_isw s b i := by
  unfold mk_wo
  by_cases h : mk_kd s b = 1
  · rw [if_pos h]
    constructor
    · intro e
      obtain ⟨a, c⟩ := mk_wif_some 28 e
      exact ⟨a, (mk_isw_X a h).mp c⟩
    · rintro ⟨a, c⟩
      cases e : mk_wif (Int64.ofNat (mk_c32 (mk_wd s b))) 28 with
      | none => exact absurd ((mk_isw_X a h).mpr c) (mk_wif_none 28 e i a)
      | some j =>
        obtain ⟨a', c'⟩ := mk_wif_some 28 e
        rw [mk_isw_inj a a' c ((mk_isw_X a' h).mp c')]
  · rw [if_neg h]
    exact ⟨fun e => (nomatch e), fun e => absurd e.2.1 h⟩
theorem mk_wo_none {s : mk_S} {b : Nat} (h : ∀ i, i < 28 → ¬ mk_isw s b i) : mk_wo s b = none := by
  cases e : mk_wo s b with
  | none => rfl
  | some i => exact absurd (mk_wo_some.mp e).2 (h i (mk_wo_some.mp e).1)
/-- the token at b may be a name -/
def mk_isn (s : mk_S) (b : Nat) : Prop := mk_kd s b = 1 ∧ ∀ i, i < 24 → ¬ mk_isw s b i
