/-! WHAT BOTH SIDES HOLD, in Nat: A by the reference's cells (263 counts, 266 kind, 267 rank, 268 tax, 269 truth, 270 whose, 271 cost, 272 on + 1, 273 by, 274 clashes, 275 to 277 ears), r a row of the reference (cell 301), E the law of worth -/
abbrev mk_A := Nat → Nat → Nat
abbrev mk_E := Option (Int32 → Int32 → Int32 → Int32 → Int32)
def mk_T (A : mk_A) : Prop := (A 263 0 ≤ 6 ∧ A 263 1 ≤ 10 ∧ A 263 2 ≤ 30 ∧ A 263 3 ≤ 1000) ∧ (∀ p, p < A 263 0 → A 266 p ≤ 3 ∧ A 267 p ≤ 9 ∧ A 268 p ≤ 999) ∧ (∀ k, k < A 263 1 → A 269 k ≤ 1 ∧ A 270 k < A 263 0 ∧ 1 ≤ A 271 k ∧ A 271 k ≤ 99 ∧ A 272 k ≤ k ∧ A 273 k < 2 ^ A 263 0 ∧ A 274 k < 2 ^ A 263 1) ∧ (∀ e, e < A 263 2 → A 275 e < A 263 0 ∧ A 276 e < A 263 0 ∧ ¬ A 275 e = A 276 e ∧ A 277 e ≤ 10) ∧ (∀ e f, e < A 263 2 → f < e → ¬ (A 275 e = A 275 f ∧ A 276 e = A 276 f))
def mk_W (A : mk_A) (r : Nat → Nat) : Prop := (∀ k, k < A 263 1 → r k < 2 ^ A 263 0) ∧ (∀ p, p < A 263 0 → r (70 + p) ≤ 9) ∧ r 76 < 2 ^ A 263 1 ∧ r 77 < 2 ^ A 263 1 ∧ r 78 < 2 ^ A 263 0 ∧ r 122 ≤ 12 ∧ (∀ p k, p < A 263 0 → k < A 263 1 → r (10 + 10 * p + k) < 2 ^ A 263 0) ∧ ∀ p q, p < 6 → q < 6 → (A 263 0 ≤ p ∨ A 263 0 ≤ q) → r (86 + 6 * q + p) = 0
/-- memories that differ at most in the cells D -/
def mk_ch (D : Nat → Prop) (h h' : mm_H) : Prop := (∀ c, ¬ D c → h'.1 c = h.1 c ∧ h'.2.1 c = h.2.1 c) ∧ h'.2.2 = h.2.2
theorem mk_ch.rf {D : Nat → Prop} {h : mm_H} : mk_ch D h h := ⟨fun _ _ => ⟨rfl, rfl⟩, rfl⟩
theorem mk_ch.tr {D D1 D2 : Nat → Prop} {h h1 h2 : mm_H} (a : mk_ch D1 h h1) (b : mk_ch D2 h1 h2) (h1' : ∀ c, D1 c → D c) (h2' : ∀ c, D2 c → D c) : mk_ch D h h2 :=
  ⟨fun c hc => ⟨((b.1 c (fun q => hc (h2' c q))).1).trans (a.1 c (fun q => hc (h1' c q))).1, ((b.1 c (fun q => hc (h2' c q))).2).trans (a.1 c (fun q => hc (h1' c q))).2⟩, b.2.trans a.2⟩
theorem mk_ch.mono {D D1 : Nat → Prop} {h h1 : mm_H} (a : mk_ch D1 h h1) (h1' : ∀ c, D1 c → D c) : mk_ch D h h1 := ⟨fun c hc => a.1 c (fun q => hc (h1' c q)), a.2⟩
theorem mk_ch.pI {D : Nat → Prop} {h : mm_H} {a k : Nat} {v : Int32} (ha : D a) : mk_ch D h (mm_pI h a k v) := by
  refine ⟨fun c hc => ⟨?_, rfl⟩, rfl⟩
  funext j
  rw [mp_I1, if_neg]
  intro q
  exact hc (q.1 ▸ ha)
theorem mk_ch.pL {D : Nat → Prop} {h : mm_H} {a k : Nat} {v : Int64} (ha : D a) : mk_ch D h (mm_pL h a k v) := by
  refine ⟨fun c hc => ⟨rfl, ?_⟩, rfl⟩
  funext j
  rw [mp_L2, if_neg]
  intro q
  exact hc (q.1 ▸ ha)
theorem mk_ch.e1 {D : Nat → Prop} {h h' : mm_H} (a : mk_ch D h h') {c : Nat} (hc : ¬ D c) : h'.1 c = h.1 c := (a.1 c hc).1
theorem mk_ch.e2 {D : Nat → Prop} {h h' : mm_H} (a : mk_ch D h h') {c : Nat} (hc : ¬ D c) : h'.2.1 c = h.2.1 c := (a.1 c hc).2
/-- the cells in which the reference works out a worth -/
def mk_DM (c : Nat) : Prop := 281 ≤ c ∧ c ≤ 292
def mk_EM (E : mk_E) (h : mm_H) : Prop := match E with
  | none => h.1 279 0 = h.1 278 0
  | some f => ¬ h.1 279 0 = h.1 278 0 ∧ ∀ h' : mm_H, h'.1 278 0 = h.1 278 0 → h'.1 279 0 = h.1 279 0 → (∀ k, k < 1000 → h'.1 280 k = h.1 280 k) → ∃ h'', f_M_worked 0 h' = some (f (h'.1 292 1) (h'.1 292 2) (h'.1 292 3) (h'.1 292 4), h'') ∧ mk_ch mk_DM h' h''
def mk_MT (A : mk_A) (E : mk_E) (h : mm_H) : Prop := (∀ k, k < 4 → h.1 263 k = Int32.ofNat (A 263 k)) ∧ (∀ p, p < 6 → h.1 266 p = Int32.ofNat (A 266 p) ∧ h.1 267 p = Int32.ofNat (A 267 p) ∧ h.1 268 p = Int32.ofNat (A 268 p)) ∧ (∀ k, k < 10 → h.1 269 k = Int32.ofNat (A 269 k) ∧ h.1 270 k = Int32.ofNat (A 270 k) ∧ h.1 271 k = Int32.ofNat (A 271 k) ∧ h.1 272 k = Int32.ofNat (A 272 k) - 1 ∧ h.1 273 k = Int32.ofNat (A 273 k) ∧ h.1 274 k = Int32.ofNat (A 274 k)) ∧ (∀ e, e < 30 → h.1 275 e = Int32.ofNat (A 275 e) ∧ h.1 276 e = Int32.ofNat (A 276 e) ∧ h.1 277 e = Int32.ofNat (A 277 e)) ∧ mk_EM E h
def mk_MR (r : Nat → Nat) (h : mm_H) : Prop := ∀ k, k < 123 → h.1 301 k = Int32.ofNat (r k)
theorem mk_EM.ch {D : Nat → Prop} {E : mk_E} {h h' : mm_H} (q : mk_EM E h) (c : mk_ch D h h') (hD : ¬ D 278 ∧ ¬ D 279 ∧ ¬ D 280) : mk_EM E h' := by
  unfold mk_EM at q ⊢
  rw [c.e1 hD.1, c.e1 hD.2.1, c.e1 hD.2.2]
  exact q
theorem mk_MT.ch {D : Nat → Prop} {A : mk_A} {E : mk_E} {h h' : mm_H} (q : mk_MT A E h) (c : mk_ch D h h') (hD : ∀ j, D j → j < 263 ∨ 280 < j) : mk_MT A E h' := by
  have n : ∀ j, 263 ≤ j → j ≤ 280 → ¬ D j := fun j h1 h2 q => by have := hD j q; omega
  obtain ⟨q1, q2, q3, q4, q5⟩ := q
  refine ⟨?_, ?_, ?_, ?_, q5.ch c ⟨n 278 (by omega) (by omega), n 279 (by omega) (by omega), n 280 (by omega) (by omega)⟩⟩
  · rw [c.e1 (n 263 (by omega) (by omega))]; exact q1
  · rw [c.e1 (n 266 (by omega) (by omega)), c.e1 (n 267 (by omega) (by omega)), c.e1 (n 268 (by omega) (by omega))]; exact q2
  · rw [c.e1 (n 269 (by omega) (by omega)), c.e1 (n 270 (by omega) (by omega)), c.e1 (n 271 (by omega) (by omega)), c.e1 (n 272 (by omega) (by omega)), c.e1 (n 273 (by omega) (by omega)), c.e1 (n 274 (by omega) (by omega))]; exact q3
  · rw [c.e1 (n 275 (by omega) (by omega)), c.e1 (n 276 (by omega) (by omega)), c.e1 (n 277 (by omega) (by omega))]; exact q4
theorem mk_MR.ch {D : Nat → Prop} {r : Nat → Nat} {h h' : mm_H} (q : mk_MR r h) (c : mk_ch D h h') (hD : ¬ D 301) : mk_MR r h' := by
  unfold mk_MR
  rw [c.e1 hD]
  exact q
/-- how many know, priests aside -/
def mk_kn (A : mk_A) (s : Nat) : Nat := mk_cnt (fun p => s.testBit p && !(decide (A 266 p = 3))) (A 263 0)
/-- the E of worth, by cost, knowers, age, high -/
def mk_base (E : mk_E) (c n a hi : Nat) : Nat := match E with
  | none => if n ≤ 4 then c / max 1 n else 0
  | some f => min 999 (f (Int32.ofNat c) (Int32.ofNat n) (Int32.ofNat a) (Int32.ofNat hi)).toInt.toNat
def mk_b (A : mk_A) (E : mk_E) (r : Nat → Nat) (k n : Nat) : Nat := mk_base E (A 271 k) n (r 85) (r (70 + A 270 k))
/-- the worths of the first n -/
def mk_wt (A : mk_A) (E : mk_E) (r : Nat → Nat) : Nat → Nat → Nat
  | 0 => fun _ => 0
  | n + 1 => fun j => if j = n then (if (r 76).testBit n = true then 0 else mk_b A E r n (mk_kn A (r n)) + (if A 272 n = 0 then 0 else mk_wt A E r n (A 272 n - 1))) else mk_wt A E r n j
def mk_w (A : mk_A) (E : mk_E) (r : Nat → Nat) (k : Nat) : Nat := mk_wt A E r (k + 1) k
theorem mk_wt_w {A : mk_A} {E : mk_E} {r : Nat → Nat} {n j : Nat} (h : j < n) : mk_wt A E r n j = mk_w A E r j := by
  induction n with
  | zero => omega
  | succ n ih =>
    by_cases e : j = n
    · subst e; rfl
    · simp only [mk_wt]
      rw [if_neg e]
      exact ih (by omega)
theorem mk_w_eq {A : mk_A} {E : mk_E} {r : Nat → Nat} {k : Nat} (h : A 272 k ≤ k) : mk_w A E r k = if (r 76).testBit k = true then 0 else mk_b A E r k (mk_kn A (r k)) + (if A 272 k = 0 then 0 else mk_w A E r (A 272 k - 1)) := by
  have e0 : mk_w A E r k = if (r 76).testBit k = true then 0 else mk_b A E r k (mk_kn A (r k)) + (if A 272 k = 0 then 0 else mk_wt A E r k (A 272 k - 1)) := if_pos rfl
  rw [e0]
  by_cases e : A 272 k = 0
  · rw [if_pos e, if_pos e]
  · rw [if_neg e, if_neg e, mk_wt_w (by omega)]
theorem mk_kn_le {A : mk_A} {s : Nat} : mk_kn A s ≤ A 263 0 := mk_cnt_le _ _
theorem mk_base_le {E : mk_E} {c n a hi : Nat} (h : c ≤ 99) : mk_base E c n a hi ≤ 999 := by
  unfold mk_base
  cases E with
  | none =>
    show (if n ≤ 4 then c / max 1 n else 0) ≤ 999
    split
    · have := Nat.div_le_self c (max 1 n); omega
    · omega
  | some f => exact Nat.min_le_left _ _
theorem mk_w_le {A : mk_A} {E : mk_E} {r : Nat → Nat} (hT : mk_T A) : ∀ k, k < A 263 1 → mk_w A E r k ≤ 999 * (k + 1) := by
  intro k
  induction k using Nat.strongRecOn with
  | _ k ih =>
    intro hk
    obtain ⟨t1, t2, t3, t4, t5, t6, t7⟩ := hT.2.2.1 k hk
    rw [mk_w_eq t5]
    have hb : mk_b A E r k (mk_kn A (r k)) ≤ 999 := mk_base_le t4
    split
    · omega
    · split
      · omega
      · rename_i h1 h2
        have := ih (A 272 k - 1) (by omega) (by omega)
        have h3 : A 272 k - 1 + 1 ≤ k := by omega
        have : 999 * (A 272 k - 1 + 1) ≤ 999 * k := Nat.mul_le_mul_left _ h3
        omega
theorem mk_w_lt {A : mk_A} {E : mk_E} {r : Nat → Nat} (hT : mk_T A) {k : Nat} (hk : k < A 263 1) : mk_w A E r k ≤ 9990 := by
  have h1 := mk_w_le (E := E) (r := r) hT k hk
  have h2 := hT.1.2.1
  have : 999 * (k + 1) ≤ 999 * 10 := Nat.mul_le_mul_left _ (by omega)
  omega
/-- the worths of a set together -/
def mk_ws (A : mk_A) (E : mk_E) (r : Nat → Nat) (s : Nat) : Nat := mk_sum (fun k => if s.testBit k = true then mk_w A E r k else 0) (A 263 1)
theorem mk_ws_le {A : mk_A} {E : mk_E} {r : Nat → Nat} {s : Nat} (hT : mk_T A) : mk_ws A E r s ≤ 99900 := by
  have h1 := hT.1.2.1
  have h2 : mk_ws A E r s ≤ A 263 1 * 9990 := mk_sum_le (fun i hi => by
    split
    · exact mk_w_lt hT hi
    · omega)
  have : A 263 1 * 9990 ≤ 10 * 9990 := Nat.mul_le_mul_right _ h1
  omega
/-- what one knows, as bits -/
def mk_kb (A : mk_A) (r : Nat → Nat) (p : Nat) : Nat := mk_set (fun k => (r k).testBit p) (A 263 1)
theorem mk_p2 {P x : Nat} (hP : P ≤ 6) (h : x < 2 ^ P) : x < 64 := Nat.lt_of_lt_of_le h (Nat.pow_le_pow_right (by omega) hP)
theorem mk_s2 {S x : Nat} (hS : S ≤ 10) (h : x < 2 ^ S) : x < 1024 := Nat.lt_of_lt_of_le h (Nat.pow_le_pow_right (by omega) hS)
