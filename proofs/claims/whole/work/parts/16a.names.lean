/-! names told, both sides; two runs beside each other -/
def mj_two {α β : Type} (oX : Option α) (oM : Option β) (R : α → β → Prop) : Prop := ∃ a b, oX = some a ∧ oM = some b ∧ R a b
theorem mj_two.x {α α' β : Type} {o : Option α'} {k : α' → Option α} {oM : Option β} {Q : α' → Prop} {R : α → β → Prop} (h : mk_ok o Q) (hk : ∀ r, Q r → mj_two (k r) oM R) : mj_two (o.bind k) oM R := by
  obtain ⟨r, rfl, q⟩ := h
  exact hk r q
theorem mj_two.m {α β β' : Type} {o : Option β'} {k : β' → Option β} {oX : Option α} {Q : β' → Prop} {R : α → β → Prop} (h : mk_ok o Q) (hk : ∀ r, Q r → mj_two oX (k r) R) : mj_two oX (o.bind k) R := by
  obtain ⟨r, rfl, q⟩ := h
  exact hk r q
theorem mj_two.xs {α α' β : Type} {o : Option α'} {k : α' → Option α} {oM : Option β} {v : α'} {R : α → β → Prop} (h : o = some v) (hk : mj_two (k v) oM R) : mj_two (o.bind k) oM R := by
  rw [h]; exact hk
theorem mj_two.ms {α β β' : Type} {o : Option β'} {k : β' → Option β} {oX : Option α} {v : β'} {R : α → β → Prop} (h : o = some v) (hk : mj_two oX (k v) R) : mj_two oX (o.bind k) R := by
  rw [h]; exact hk
theorem mj_two.xl {α α' β : Type} {e : α'} {k : α' → Option α} {oM : Option β} {R : α → β → Prop} (h : mj_two (k e) oM R) : mj_two (mm_let e k) oM R := h
theorem mj_two.ml {α β β' : Type} {e : β'} {k : β' → Option β} {oX : Option α} {R : α → β → Prop} (h : mj_two oX (k e) R) : mj_two oX (mm_let e k) R := h
theorem mj_two.ret {α β : Type} {a : α} {b : β} {R : α → β → Prop} (h : R a b) : mj_two (some a) (some b) R := ⟨a, b, rfl, rfl, h⟩
theorem mj_two.both {α α' β β' : Type} {oX : Option α'} {oM : Option β'} {kX : α' → Option α} {kM : β' → Option β} {Q : α' → β' → Prop} {R : α → β → Prop} (h : mj_two oX oM Q) (hk : ∀ a b, Q a b → mj_two (kX a) (kM b) R) : mj_two (oX.bind kX) (oM.bind kM) R := by
  obtain ⟨a, b, rfl, rfl, q⟩ := h
  exact hk a b q
theorem mj_two.cons {α β : Type} {oX : Option α} {oM : Option β} {Q R : α → β → Prop} (h : mj_two oX oM Q) (hk : ∀ a b, Q a b → R a b) : mj_two oX oM R := by
  obtain ⟨a, b, e1, e2, q⟩ := h
  exact ⟨a, b, e1, e2, hk a b q⟩
theorem mj_two.of {α β : Type} {oX : Option α} {oM : Option β} {Q1 : α → Prop} {Q2 : β → Prop} {R : α → β → Prop} (h1 : mk_ok oX Q1) (h2 : mk_ok oM Q2) (hk : ∀ a b, Q1 a → Q2 b → R a b) : mj_two oX oM R := by
  obtain ⟨a, e1, q1⟩ := h1
  obtain ⟨b, e2, q2⟩ := h2
  exact ⟨a, b, e1, e2, hk a b q1 q2⟩
theorem mj_two.lp {σ ρ σ' ρ' : Type} {sX : σ → Option (σ ⊕ ρ)} {sM : σ' → Option (σ' ⊕ ρ')} (I : Nat → σ → σ' → Prop) {Q : ρ → ρ' → Prop} (H : ∀ n x y, I n x y → mj_two (sX x) (sM y) (fun a b => (∃ n' x' y', a = .inl x' ∧ b = .inl y' ∧ I n' x' y' ∧ n' < n) ∨ ∃ r q, a = .inr r ∧ b = .inr q ∧ Q r q)) : ∀ n x y, I n x y → mj_two (mm_while sX x) (mm_while sM y) Q := by
  intro n
  induction n using Nat.strongRecOn with
  | _ n ih =>
    intro x y hI
    obtain ⟨a, b, e1, e2, q⟩ := H n x y hI
    rcases q with ⟨n', x', y', rfl, rfl, hI', lt⟩ | ⟨r, q, rfl, rfl, hq⟩
    · rw [mm_while_inl e1, mm_while_inl e2]
      exact ih n' lt x' y' hI'
    · exact ⟨r, q, mm_while_inr e1, mm_while_inr e2, hq⟩
/-- the first index below n at which f holds, or n -/
def mj_ff (f : Nat → Bool) : Nat → Nat
  | 0 => 0
  | n + 1 => if mj_ff f n < n then mj_ff f n else if f n = true then n else n + 1
theorem mj_ff_is {f : Nat → Bool} {i : Nat} (h1 : f i = true) (h0 : ∀ j, j < i → f j = false) : ∀ n, i < n → mj_ff f n = i
  | 0, h => absurd h (Nat.not_lt_zero _)
  | n + 1, h => by
    by_cases e : i = n
    · subst e
      have no : ¬ mj_ff f i < i := by
        have : mj_ff f i = i := by
          have key : ∀ m, m ≤ i → mj_ff f m = m := by
            intro m
            induction m with
            | zero => intro _; rfl
            | succ m ih =>
              intro hm
              show (if mj_ff f m < m then mj_ff f m else if f m = true then m else m + 1) = m + 1
              rw [ih (by omega), if_neg (by omega), if_neg (by rw [h0 m (by omega)]; decide)]
          exact key i (Nat.le_refl _)
        omega
      show (if mj_ff f i < i then mj_ff f i else if f i = true then i else i + 1) = i
      rw [if_neg no, if_pos h1]
    · have := mj_ff_is h1 h0 n (by omega)
      show (if mj_ff f n < n then mj_ff f n else if f n = true then n else n + 1) = i
      rw [this, if_pos (by omega)]
theorem mj_ff_no {f : Nat → Bool} : ∀ n, (∀ j, j < n → f j = false) → mj_ff f n = n
  | 0, _ => rfl
  | n + 1, h => by
    show (if mj_ff f n < n then mj_ff f n else if f n = true then n else n + 1) = n + 1
    rw [mj_ff_no n (fun j hj => h j (by omega)), if_neg (by omega), if_neg (by rw [h n (by omega)]; decide)]
theorem mj_ff_all {f : Nat → Bool} {n : Nat} (h : ¬ mj_ff f n < n) : ∀ j, j < n → f j = false := by
  intro j hj
  cases c : f j
  · rfl
  · -- the least such j
    have ex : ∃ i, i < n ∧ f i = true ∧ ∀ k, k < i → f k = false := by
      have key : ∀ m, m < n → f m = true → ∃ i, i < n ∧ f i = true ∧ ∀ k, k < i → f k = false := by
        intro m
        induction m using Nat.strongRecOn with
        | _ m ih =>
          intro hm fm
          by_cases d : ∃ k, k < m ∧ f k = true
          · obtain ⟨k, k1, k2⟩ := d
            exact ih k k1 (by omega) k2
          · refine ⟨m, hm, fm, fun k hk => ?_⟩
            cases e : f k
            · rfl
            · exact absurd ⟨k, hk, e⟩ d
      exact key j hj c
    obtain ⟨i, i1, i2, i3⟩ := ex
    rw [mj_ff_is i2 i3 n i1] at h
    exact absurd i1 h
theorem mj_or1 {c : Prop} [Decidable c] {x : Option Int32} (h : ¬ c → x = some 1) : (if c then some 1 else x) = some 1 := by
  by_cases k : c
  · exact if_pos k
  · rw [if_neg k]; exact h k
theorem mi_isKept {s : mk_S} {b : Nat} {h : mm_H} (T : mk_TKM s b h) : (mk_isn s b → f_M_isKept h = some 0) ∧ (¬ mk_isn s b → f_M_isKept h = some 1) := by
  obtain ⟨t0, t1, t2, t3, t4, t5, t6, t7⟩ := T
  have k1 : (Int32.ofNat (mk_kd s b) = 1) ↔ mk_kd s b = 1 := mn_eql (b := 1) (show mk_kd s b < 4294967296 by have := mk_kd_le s b; omega) (by decide)
  unfold f_M_isKept
  rw [t5]
  constructor
  · intro n
    have k := n.1
    have no : ∀ i, i < 24 → ¬ lg_cmp (Int64.ofNat (mk_c27 (mk_wd s b))) (mk_k27 i) = 0 := fun i hi z => n.2 i hi ((mk_isw_M (by omega) k).mp ((mp_lcmp _ _).mp z))
    rw [if_pos (k1.mpr k), t6 k]
    have n0 : ¬ lg_cmp (Int64.ofNat (mk_c27 (mk_wd s b))) 232608281 = 0 := no 0 (by omega)
    have n1 : ¬ lg_cmp (Int64.ofNat (mk_c27 (mk_wd s b))) 355412 = 0 := no 1 (by omega)
    have n2 : ¬ lg_cmp (Int64.ofNat (mk_c27 (mk_wd s b))) 14631 = 0 := no 2 (by omega)
    have n3 : ¬ lg_cmp (Int64.ofNat (mk_c27 (mk_wd s b))) 275358764 = 0 := no 3 (by omega)
    have n4 : ¬ lg_cmp (Int64.ofNat (mk_c27 (mk_wd s b))) 411 = 0 := no 4 (by omega)
    have n5 : ¬ lg_cmp (Int64.ofNat (mk_c27 (mk_wd s b))) 1903978 = 0 := no 5 (by omega)
    have n6 : ¬ lg_cmp (Int64.ofNat (mk_c27 (mk_wd s b))) 419 = 0 := no 6 (by omega)
    have n7 : ¬ lg_cmp (Int64.ofNat (mk_c27 (mk_wd s b))) 79 = 0 := no 7 (by omega)
    have n8 : ¬ lg_cmp (Int64.ofNat (mk_c27 (mk_wd s b))) 3690 = 0 := no 8 (by omega)
    have n9 : ¬ lg_cmp (Int64.ofNat (mk_c27 (mk_wd s b))) 1831769 = 0 := no 9 (by omega)
    have n10 : ¬ lg_cmp (Int64.ofNat (mk_c27 (mk_wd s b))) 12532058 = 0 := no 10 (by omega)
    have n11 : ¬ lg_cmp (Int64.ofNat (mk_c27 (mk_wd s b))) 397641 = 0 := no 11 (by omega)
    have n12 : ¬ lg_cmp (Int64.ofNat (mk_c27 (mk_wd s b))) 11716 = 0 := no 12 (by omega)
    have n13 : ¬ lg_cmp (Int64.ofNat (mk_c27 (mk_wd s b))) 361373 = 0 := no 13 (by omega)
    have n14 : ¬ lg_cmp (Int64.ofNat (mk_c27 (mk_wd s b))) 6888375828 = 0 := no 14 (by omega)
    have n15 : ¬ lg_cmp (Int64.ofNat (mk_c27 (mk_wd s b))) 8740238 = 0 := no 15 (by omega)
    have n16 : ¬ lg_cmp (Int64.ofNat (mk_c27 (mk_wd s b))) 108802051 = 0 := no 16 (by omega)
    have n17 : ¬ lg_cmp (Int64.ofNat (mk_c27 (mk_wd s b))) 82410 = 0 := no 17 (by omega)
    have n18 : ¬ lg_cmp (Int64.ofNat (mk_c27 (mk_wd s b))) 239329775 = 0 := no 18 (by omega)
    have n19 : ¬ lg_cmp (Int64.ofNat (mk_c27 (mk_wd s b))) 407354 = 0 := no 19 (by omega)
    have n20 : ¬ lg_cmp (Int64.ofNat (mk_c27 (mk_wd s b))) 3217595 = 0 := no 20 (by omega)
    have n21 : ¬ lg_cmp (Int64.ofNat (mk_c27 (mk_wd s b))) 10631 = 0 := no 21 (by omega)
    have n22 : ¬ lg_cmp (Int64.ofNat (mk_c27 (mk_wd s b))) 1111 = 0 := no 22 (by omega)
    have n23 : ¬ lg_cmp (Int64.ofNat (mk_c27 (mk_wd s b))) 423 = 0 := no 23 (by omega)
    rw [if_neg n0, if_neg n1, if_neg n2, if_neg n3, if_neg n4, if_neg n5, if_neg n6, if_neg n7, if_neg n8, if_neg n9, if_neg n10, if_neg n11, if_neg n12, if_neg n13, if_neg n14, if_neg n15, if_neg n16, if_neg n17, if_neg n18, if_neg n19, if_neg n20, if_neg n21, if_neg n22, if_neg n23]
  · intro n
    by_cases k : mk_kd s b = 1
    · have yes : ∀ i, i < 24 → mk_isw s b i → lg_cmp (Int64.ofNat (mk_c27 (mk_wd s b))) (mk_k27 i) = 0 := fun i hi z => (mp_lcmp _ _).mpr ((mk_isw_M (by omega) k).mpr z)
      rw [if_pos (k1.mpr k), t6 k]
      refine mj_or1 (fun n0 => mj_or1 (fun n1 => mj_or1 (fun n2 => mj_or1 (fun n3 => mj_or1 (fun n4 => mj_or1 (fun n5 => mj_or1 (fun n6 => mj_or1 (fun n7 => mj_or1 (fun n8 => mj_or1 (fun n9 => mj_or1 (fun n10 => mj_or1 (fun n11 => mj_or1 (fun n12 => mj_or1 (fun n13 => mj_or1 (fun n14 => mj_or1 (fun n15 => mj_or1 (fun n16 => mj_or1 (fun n17 => mj_or1 (fun n18 => mj_or1 (fun n19 => mj_or1 (fun n20 => mj_or1 (fun n21 => mj_or1 (fun n22 => mj_or1 (fun n23 => ?_))))))))))))))))))))))))
      have c0 : ¬ mk_isw s b 0 := fun z => n0 (yes 0 (by omega) z)
      have c1 : ¬ mk_isw s b 1 := fun z => n1 (yes 1 (by omega) z)
      have c2 : ¬ mk_isw s b 2 := fun z => n2 (yes 2 (by omega) z)
      have c3 : ¬ mk_isw s b 3 := fun z => n3 (yes 3 (by omega) z)
      have c4 : ¬ mk_isw s b 4 := fun z => n4 (yes 4 (by omega) z)
      have c5 : ¬ mk_isw s b 5 := fun z => n5 (yes 5 (by omega) z)
      have c6 : ¬ mk_isw s b 6 := fun z => n6 (yes 6 (by omega) z)
      have c7 : ¬ mk_isw s b 7 := fun z => n7 (yes 7 (by omega) z)
      have c8 : ¬ mk_isw s b 8 := fun z => n8 (yes 8 (by omega) z)
      have c9 : ¬ mk_isw s b 9 := fun z => n9 (yes 9 (by omega) z)
      have c10 : ¬ mk_isw s b 10 := fun z => n10 (yes 10 (by omega) z)
      have c11 : ¬ mk_isw s b 11 := fun z => n11 (yes 11 (by omega) z)
      have c12 : ¬ mk_isw s b 12 := fun z => n12 (yes 12 (by omega) z)
      have c13 : ¬ mk_isw s b 13 := fun z => n13 (yes 13 (by omega) z)
      have c14 : ¬ mk_isw s b 14 := fun z => n14 (yes 14 (by omega) z)
      have c15 : ¬ mk_isw s b 15 := fun z => n15 (yes 15 (by omega) z)
      have c16 : ¬ mk_isw s b 16 := fun z => n16 (yes 16 (by omega) z)
      have c17 : ¬ mk_isw s b 17 := fun z => n17 (yes 17 (by omega) z)
      have c18 : ¬ mk_isw s b 18 := fun z => n18 (yes 18 (by omega) z)
      have c19 : ¬ mk_isw s b 19 := fun z => n19 (yes 19 (by omega) z)
      have c20 : ¬ mk_isw s b 20 := fun z => n20 (yes 20 (by omega) z)
      have c21 : ¬ mk_isw s b 21 := fun z => n21 (yes 21 (by omega) z)
      have c22 : ¬ mk_isw s b 22 := fun z => n22 (yes 22 (by omega) z)
      have c23 : ¬ mk_isw s b 23 := fun z => n23 (yes 23 (by omega) z)
      refine absurd ⟨k, fun i hi => ?_⟩ n
      have : i = 0 ∨ i = 1 ∨ i = 2 ∨ i = 3 ∨ i = 4 ∨ i = 5 ∨ i = 6 ∨ i = 7 ∨ i = 8 ∨ i = 9 ∨ i = 10 ∨ i = 11 ∨ i = 12 ∨ i = 13 ∨ i = 14 ∨ i = 15 ∨ i = 16 ∨ i = 17 ∨ i = 18 ∨ i = 19 ∨ i = 20 ∨ i = 21 ∨ i = 22 ∨ i = 23 := by omega
      rcases this with rfl | rfl | rfl | rfl | rfl | rfl | rfl | rfl | rfl | rfl | rfl | rfl | rfl | rfl | rfl | rfl | rfl | rfl | rfl | rfl | rfl | rfl | rfl | rfl <;> assumption
    · rw [if_neg (fun z => k (k1.mp z))]
