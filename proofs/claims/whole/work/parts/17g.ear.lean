/-! town: an ear's line -/
theorem mj_two.mw {σ ρ : Type} {α : Type} {step : σ → Option (σ ⊕ ρ)} {s : σ} {oX : Option α} {R : α → ρ → Prop} (h : mj_two oX (step s) (fun a x => ∃ r, x = .inr r ∧ R a r)) : mj_two oX (mm_while step s) R := by
  obtain ⟨a, x, e1, e2, r, rfl, q⟩ := h
  exact ⟨a, r, e1, mm_while_inr e2, q⟩
theorem mj_ear_0 {A : mk_A} {p q : Nat} : ∀ n, mk_ear A p q n = 0 ↔ ∀ e, e < n → ¬ (A 275 e = p ∧ A 276 e = q)
  | 0 => ⟨fun _ e he => absurd he (Nat.not_lt_zero _), fun _ => rfl⟩
  | n + 1 => by
    have st : mk_ear A p q (n + 1) = if A 275 n = p ∧ A 276 n = q then A 277 n + 1 else mk_ear A p q n := rfl
    rw [st]
    by_cases c : A 275 n = p ∧ A 276 n = q
    · rw [if_pos c]
      exact ⟨fun z => by omega, fun z => absurd c (z n (by omega))⟩
    · rw [if_neg c, mj_ear_0 n]
      exact ⟨fun z e he => by
        by_cases h : e = n
        · rw [h]; exact c
        · exact z e (by omega), fun z e he => z e (by omega)⟩
theorem mj_ear_le {A : mk_A} {p q : Nat} : ∀ n, (∀ e, e < n → A 277 e ≤ 10) → mk_ear A p q n ≤ 11
  | 0, _ => Nat.zero_le _
  | n + 1, h => by
    have st : mk_ear A p q (n + 1) = if A 275 n = p ∧ A 276 n = q then A 277 n + 1 else mk_ear A p q n := rfl
    rw [st]
    have := h n (by omega)
    have := mj_ear_le (p := p) (q := q) n (fun e he => h e (by omega))
    split <;> omega
theorem mj_cnt_le {f g : Nat → Bool} : ∀ n, (∀ i, i < n → f i = true → g i = true) → mk_cnt f n ≤ mk_cnt g n
  | 0, _ => Nat.le_refl _
  | n + 1, h => by
    have ih := mj_cnt_le n (fun i hi => h i (by omega))
    show mk_cnt f n + (f n).toNat ≤ mk_cnt g n + (g n).toNat
    cases c : f n
    · show _ + 0 ≤ _; omega
    · rw [h n (by omega) c]; omega
def mj_told (A : mk_A) (n x : Nat) : Bool := decide (¬ mk_ear A (x / 6) (x % 6) n = 0)
theorem mj_told_cnt {A : mk_A} : ∀ n, (∀ e, e < n → A 275 e < 6 ∧ A 276 e < 6) → (∀ e f, e < n → f < e → ¬ (A 275 e = A 275 f ∧ A 276 e = A 276 f)) → mk_cnt (mj_told A n) 36 = n
  | 0, _, _ => by
    have : ∀ m, mk_cnt (mj_told A 0) m = 0 := by
      intro m
      induction m with
      | zero => rfl
      | succ m ih =>
        show mk_cnt (mj_told A 0) m + (mj_told A 0 m).toNat = 0
        rw [ih, show mj_told A 0 m = false from decide_eq_false (fun z => z rfl)]; rfl
    exact this 36
  | n + 1, h1, h2 => by
    have ih := mj_told_cnt n (fun e he => h1 e (by omega)) (fun e f he hf => h2 e f (by omega) hf)
    obtain ⟨a6, b6⟩ := h1 n (by omega)
    have st : ∀ p q, mk_ear A p q (n + 1) = if A 275 n = p ∧ A 276 n = q then A 277 n + 1 else mk_ear A p q n := fun p q => rfl
    have dv : (6 * A 275 n + A 276 n) / 6 = A 275 n := by omega
    have dm : (6 * A 275 n + A 276 n) % 6 = A 276 n := by omega
    rw [mj_cnt_set (f := mj_told A n) (g := mj_told A (n + 1)) (i := 6 * A 275 n + A 276 n) ?_ ?_ (fun j hj => ?_) 36 (by omega), ih]
    · unfold mj_told
      refine decide_eq_false (fun z => z ?_)
      rw [dv, dm, mj_ear_0]
      exact fun e he q => h2 n e (by omega) he ⟨q.1.symm, q.2.symm⟩
    · unfold mj_told
      refine decide_eq_true ?_
      rw [dv, dm, st, if_pos ⟨rfl, rfl⟩]
      omega
    · unfold mj_told
      rw [st, if_neg (fun z => hj (by omega))]
theorem mj_ears_lt {A : mk_A} {n a b : Nat} (h1 : ∀ e, e < n → A 275 e < 6 ∧ A 276 e < 6 ∧ ¬ A 275 e = A 276 e) (h2 : ∀ e f, e < n → f < e → ¬ (A 275 e = A 275 f ∧ A 276 e = A 276 f)) (ha : a < 6) (hb : b < 6) (hab : ¬ a = b) (h0 : mk_ear A a b n = 0) : n < 30 := by
  have c := mj_told_cnt n (fun e he => ⟨(h1 e he).1, (h1 e he).2.1⟩) h2
  have le : mk_cnt (mj_told A n) 36 ≤ mk_cnt (fun x => !decide (x / 6 = x % 6) && !decide (x = 6 * a + b)) 36 := mj_cnt_le 36 (fun x hx t => by
    unfold mj_told at t
    have t' : ¬ mk_ear A (x / 6) (x % 6) n = 0 := of_decide_eq_true t
    have n1 : ¬ x / 6 = x % 6 := fun e => t' ((mj_ear_0 n).mpr (fun k hk z => (h1 k hk).2.2 (by rw [z.1, z.2, e])))
    have n2 : ¬ x = 6 * a + b := fun e => t' (by rw [show x / 6 = a by omega, show x % 6 = b by omega]; exact h0)
    rw [decide_eq_false n1, decide_eq_false n2]; rfl)
  have key : ∀ a : Nat, a < 6 → ∀ b : Nat, b < 6 → ¬ a = b → mk_cnt (fun x => !decide (x / 6 = x % 6) && !decide (x = 6 * a + b)) 36 = 29 := by decide +kernel
  rw [key a ha b hb hab, c] at le
  omega
def mj_aE (A : mk_A) (a b ch : Nat) : mk_A := fun c k => if c = 263 ∧ k = 2 then A 263 2 + 1 else if (275 ≤ c ∧ c ≤ 277) ∧ k = A 263 2 then (if c = 275 then a else if c = 276 then b else ch) else A c k
theorem mj_aE_o {A : mk_A} {a b ch c k : Nat} (h1 : ¬ (c = 263 ∧ k = 2)) (h2 : (275 ≤ c ∧ c ≤ 277) → ¬ k = A 263 2) : mj_aE A a b ch c k = A c k := by
  unfold mj_aE
  rw [if_neg h1, if_neg (fun z => h2 z.1 z.2)]
theorem mj_aE_n {A : mk_A} {a b ch : Nat} : mj_aE A a b ch 263 2 = A 263 2 + 1 ∧ mj_aE A a b ch 275 (A 263 2) = a ∧ mj_aE A a b ch 276 (A 263 2) = b ∧ mj_aE A a b ch 277 (A 263 2) = ch := by
  unfold mj_aE
  refine ⟨rfl, ?_, ?_, ?_⟩
  · rw [if_neg (by omega), if_pos ⟨⟨by omega, by omega⟩, rfl⟩, if_pos rfl]
  · rw [if_neg (by omega), if_pos ⟨⟨by omega, by omega⟩, rfl⟩, if_neg (by omega), if_pos rfl]
  · rw [if_neg (by omega), if_pos ⟨⟨by omega, by omega⟩, rfl⟩, if_neg (by omega), if_neg (by omega)]
theorem mj_BT.addE {A : mk_A} {nP nS : Nat → Nat → Nat} {a b ch : Nat} (B : mj_BT A nP nS) (ha : a < A 263 0) (hb : b < A 263 0) (hab : ¬ a = b) (hc : ch ≤ 10) (h0 : mk_ear A a b (A 263 2) = 0) : A 263 2 < 30 ∧ mj_BT (mj_aE A a b ch) nP nS := by
  obtain ⟨n0, n1, n2, n3⟩ := mj_aE_n (A := A) (a := a) (b := b) (ch := ch)
  have o : ∀ c k, ¬ (c = 263 ∧ k = 2) → ((275 ≤ c ∧ c ≤ 277) → ¬ k = A 263 2) → mj_aE A a b ch c k = A c k := fun c k x y => mj_aE_o x y
  obtain ⟨⟨⟨t1, t2, t3, t4⟩, t5, t6, t7, t8⟩, z, oP, oS, fa⟩ := B
  have lt : A 263 2 < 30 := mj_ears_lt (fun e he => ⟨by have := (t7 e he).1; omega, by have := (t7 e he).2.1; omega, (t7 e he).2.2.1⟩) t8 (by omega) (by omega) hab h0
  refine ⟨lt, ⟨⟨by rw [o 263 0 (by omega) (by omega)]; exact t1, by rw [o 263 1 (by omega) (by omega)]; exact t2, by rw [n0]; omega, by rw [o 263 3 (by omega) (by omega)]; exact t4⟩, fun p hp => ?_, fun k hk => ?_, fun e he => ?_, fun e f he hf => ?_⟩, fun k k1 k2 => ?_, ?_, ?_, ?_⟩
  · rw [o 263 0 (by omega) (by omega)] at hp
    rw [o 266 p (by omega) (by omega), o 267 p (by omega) (by omega), o 268 p (by omega) (by omega)]; exact t5 p hp
  · rw [o 263 1 (by omega) (by omega)] at hk ⊢
    rw [o 263 0 (by omega) (by omega), o 269 k (by omega) (by omega), o 270 k (by omega) (by omega), o 271 k (by omega) (by omega), o 272 k (by omega) (by omega), o 273 k (by omega) (by omega), o 274 k (by omega) (by omega)]
    exact t6 k hk
  · rw [n0] at he
    rw [o 263 0 (by omega) (by omega)]
    by_cases h : e = A 263 2
    · rw [h, n1, n2, n3]; exact ⟨ha, hb, hab, hc⟩
    · rw [o 275 e (by omega) (by omega), o 276 e (by omega) (by omega), o 277 e (by omega) (by omega)]; exact t7 e (by omega)
  · rw [n0] at he
    rw [o 275 f (by omega) (by omega), o 276 f (by omega) (by omega)]
    by_cases h : e = A 263 2
    · rw [h, n1, n2]
      exact fun q => (mj_ear_0 _).mp h0 f (by omega) ⟨q.1.symm, q.2.symm⟩
    · rw [o 275 e (by omega) (by omega), o 276 e (by omega) (by omega)]; exact t8 e f (by omega) hf
  · rw [o 263 1 (by omega) (by omega)] at k1
    rw [o 274 k (by omega) (by omega)]; exact z k k1 k2
  · rw [o 263 0 (by omega) (by omega)]; exact oP
  · rw [o 263 1 (by omega) (by omega)]; exact oS
  · rw [o 999 0 (by omega) (by omega), fa]
    unfold mk_fa
    rw [o 263 1 (by omega) (by omega)]
    exact (mj_set_cg (A 263 1) (fun i hi => by rw [o 269 i (by omega) (by omega)])).symm
theorem mj_BX.addE {A : mk_A} {nP nS : Nat → Nat → Nat} {d a b ch : Nat} {g : mm_H} (B : mj_BX A nP nS d g) (ha : a < 6) (hb : b < 6) : mj_BX (mj_aE A a b ch) nP nS d (mm_pI (mm_pI (mm_pI (mm_pI g (d + 12) (a * 6 + b) (Int32.ofNat ch)) (d + 10) (A 263 2) (Int32.ofNat a)) (d + 11) (A 263 2) (Int32.ofNat b)) d 13 (Int32.ofNat (A 263 2 + 1))) := by
  obtain ⟨n0, n1, n2, n3⟩ := mj_aE_n (A := A) (a := a) (b := b) (ch := ch)
  have o : ∀ c k, ¬ (c = 263 ∧ k = 2) → ((275 ≤ c ∧ c ≤ 277) → ¬ k = A 263 2) → mj_aE A a b ch c k = A c k := fun c k x y => mj_aE_o x y
  obtain ⟨a1, a2, a3, a4, a5, a6, a7, a8, a9, a10, a11, a12, a13⟩ := B
  generalize hg : mm_pI (mm_pI (mm_pI (mm_pI g (d + 12) (a * 6 + b) (Int32.ofNat ch)) (d + 10) (A 263 2) (Int32.ofNat a)) (d + 11) (A 263 2) (Int32.ofNat b)) d 13 (Int32.ofNat (A 263 2 + 1)) = g'
  have v : ∀ c j, g'.1 c j = if c = d ∧ j = 13 then Int32.ofNat (A 263 2 + 1) else if c = d + 11 ∧ j = A 263 2 then Int32.ofNat b else if c = d + 10 ∧ j = A 263 2 then Int32.ofNat a else if c = d + 12 ∧ j = a * 6 + b then Int32.ofNat ch else g.1 c j := fun c j => by
    rw [← hg, mp_I1, mp_I1, mp_I1, mp_I1]
  have v2 : g'.2 = g.2 := by rw [← hg]; rfl
  have far : ∀ c j, ¬ c = d ∨ ¬ j = 13 → ¬ c = d + 10 → ¬ c = d + 11 → ¬ c = d + 12 → g'.1 c j = g.1 c j := fun c j h1 h2 h3 h4 => by
    rw [v, if_neg (by omega), if_neg (by omega), if_neg (by omega), if_neg (by omega)]
  refine ⟨?_, ?_, ?_, ?_, ?_, ?_, fun p hp => ?_, fun k hk => ?_, fun k hk => ?_, fun e he => ?_, fun p q hp hq => ?_, fun k hk => ?_, fun k hk => ?_⟩
  · rw [far _ _ (by omega) (by omega) (by omega) (by omega), o 263 0 (by omega) (by omega)]; exact a1
  · rw [far _ _ (by omega) (by omega) (by omega) (by omega), o 263 1 (by omega) (by omega)]; exact a2
  · rw [v, if_pos ⟨rfl, rfl⟩, n0]
  · rw [far _ _ (by omega) (by omega) (by omega) (by omega), o 263 3 (by omega) (by omega)]; exact a4
  · rw [far _ _ (by omega) (by omega) (by omega) (by omega)]
    have cg : mk_pr (mj_aE A a b ch) = mk_pr A := by
      unfold mk_pr
      rw [o 263 0 (by omega) (by omega)]
      exact mj_set_cg (A 263 0) (fun i hi => by rw [o 266 i (by omega) (by omega)])
    rw [cg]; exact a5
  · rw [far _ _ (by omega) (by omega) (by omega) (by omega), o 999 0 (by omega) (by omega)]; exact a6
  · rw [o 263 0 (by omega) (by omega)] at hp
    rw [far _ _ (by omega) (by omega) (by omega) (by omega), far _ _ (by omega) (by omega) (by omega) (by omega), far _ _ (by omega) (by omega) (by omega) (by omega), o 266 p (by omega) (by omega), o 267 p (by omega) (by omega), o 268 p (by omega) (by omega)]; exact a7 p hp
  · rw [o 263 1 (by omega) (by omega)] at hk
    rw [far _ _ (by omega) (by omega) (by omega) (by omega), far _ _ (by omega) (by omega) (by omega) (by omega), far _ _ (by omega) (by omega) (by omega) (by omega), far _ _ (by omega) (by omega) (by omega) (by omega), o 270 k (by omega) (by omega), o 271 k (by omega) (by omega), o 272 k (by omega) (by omega), o 273 k (by omega) (by omega)]
    exact a8 k hk
  · rw [far _ _ (by omega) (by omega) (by omega) (by omega), o 274 k (by omega) (by omega)]; exact a9 k hk
  · rw [n0] at he
    rw [v, v, if_neg (by omega), if_neg (by omega)]
    by_cases h : e = A 263 2
    · rw [if_pos ⟨rfl, h⟩, if_neg (by omega), if_pos ⟨rfl, h⟩, h, n1, n2]; exact ⟨rfl, rfl⟩
    · rw [if_neg (fun z => h z.2), if_neg (by omega), if_neg (by omega), if_neg (fun z => h z.2), if_neg (by omega), if_neg (by omega), o 275 e (by omega) (by omega), o 276 e (by omega) (by omega)]
      exact a10 e (by omega)
  · have st : mk_ear (mj_aE A a b ch) p q (A 263 2 + 1) = if mj_aE A a b ch 275 (A 263 2) = p ∧ mj_aE A a b ch 276 (A 263 2) = q then mj_aE A a b ch 277 (A 263 2) + 1 else mk_ear (mj_aE A a b ch) p q (A 263 2) := rfl
    rw [n0, st, n1, n2, n3, mk_ear_cg (A := A) (A 263 2) (fun e he => ⟨o 275 e (by omega) (by omega), o 276 e (by omega) (by omega), o 277 e (by omega) (by omega)⟩), v, if_neg (by omega), if_neg (by omega), if_neg (by omega)]
    by_cases h : a = p ∧ b = q
    · rw [if_pos h, if_pos ⟨rfl, by omega⟩, mn_on1 (by omega), Nat.add_sub_cancel]
    · rw [if_neg h, if_neg (by omega)]; exact a11 p q hp hq
  · rw [o 263 0 (by omega) (by omega)] at hk
    rw [v2]; exact a12 k hk
  · rw [o 263 1 (by omega) (by omega)] at hk
    rw [v2]; exact a13 k hk
theorem mj_BM.addE {A : mk_A} {nP nS : Nat → Nat → Nat} {a b ch : Nat} {g : mm_H} (B : mj_BM A nP nS g) : mj_BM (mj_aE A a b ch) nP nS (mm_pI (mm_pI (mm_pI (mm_pI g 275 (30 + A 263 2) (Int32.ofNat a)) 276 (30 + A 263 2) (Int32.ofNat b)) 277 (30 + A 263 2) (Int32.ofNat ch)) 263 6 (Int32.ofNat (A 263 2 + 1))) := by
  obtain ⟨n0, n1, n2, n3⟩ := mj_aE_n (A := A) (a := a) (b := b) (ch := ch)
  have o : ∀ c k, ¬ (c = 263 ∧ k = 2) → ((275 ≤ c ∧ c ≤ 277) → ¬ k = A 263 2) → mj_aE A a b ch c k = A c k := fun c k x y => mj_aE_o x y
  obtain ⟨a1, a2, a3, a4, a5, a6, a7, a8, a9⟩ := B
  generalize hg : mm_pI (mm_pI (mm_pI (mm_pI g 275 (30 + A 263 2) (Int32.ofNat a)) 276 (30 + A 263 2) (Int32.ofNat b)) 277 (30 + A 263 2) (Int32.ofNat ch)) 263 6 (Int32.ofNat (A 263 2 + 1)) = g'
  have v : ∀ c j, g'.1 c j = if c = 263 ∧ j = 6 then Int32.ofNat (A 263 2 + 1) else if c = 277 ∧ j = 30 + A 263 2 then Int32.ofNat ch else if c = 276 ∧ j = 30 + A 263 2 then Int32.ofNat b else if c = 275 ∧ j = 30 + A 263 2 then Int32.ofNat a else g.1 c j := fun c j => by
    rw [← hg, mp_I1, mp_I1, mp_I1, mp_I1]
  have v2 : g'.2 = g.2 := by rw [← hg]; rfl
  have far : ∀ c j, ¬ c = 263 ∨ ¬ j = 6 → ¬ (275 ≤ c ∧ c ≤ 277) → g'.1 c j = g.1 c j := fun c j h1 h2 => by
    rw [v, if_neg (by omega), if_neg (by omega), if_neg (by omega), if_neg (by omega)]
  refine ⟨?_, ?_, ?_, ?_, fun p hp => ?_, fun k hk => ?_, fun e he => ?_, fun k hk => ?_, fun k hk => ?_⟩
  · rw [far _ _ (by omega) (by omega), o 263 0 (by omega) (by omega)]; exact a1
  · rw [far _ _ (by omega) (by omega), o 263 1 (by omega) (by omega)]; exact a2
  · rw [v, if_pos ⟨rfl, rfl⟩, n0]
  · rw [far _ _ (by omega) (by omega), o 263 3 (by omega) (by omega)]; exact a4
  · rw [o 263 0 (by omega) (by omega)] at hp
    rw [far _ _ (by omega) (by omega), far _ _ (by omega) (by omega), far _ _ (by omega) (by omega), o 266 p (by omega) (by omega), o 267 p (by omega) (by omega), o 268 p (by omega) (by omega)]; exact a5 p hp
  · rw [o 263 1 (by omega) (by omega)] at hk
    rw [far _ _ (by omega) (by omega), far _ _ (by omega) (by omega), far _ _ (by omega) (by omega), far _ _ (by omega) (by omega), far _ _ (by omega) (by omega), far _ _ (by omega) (by omega), o 269 k (by omega) (by omega), o 270 k (by omega) (by omega), o 271 k (by omega) (by omega), o 272 k (by omega) (by omega), o 273 k (by omega) (by omega), o 274 k (by omega) (by omega)]
    exact a6 k hk
  · rw [n0] at he
    by_cases h : e = A 263 2
    · rw [h, n1, n2, n3, v, v, v, if_neg (by omega), if_neg (by omega), if_neg (by omega), if_pos ⟨rfl, rfl⟩, if_neg (by omega), if_neg (by omega), if_pos ⟨rfl, rfl⟩, if_neg (by omega), if_pos ⟨rfl, rfl⟩]; exact ⟨rfl, rfl, rfl⟩
    · rw [o 275 e (by omega) (by omega), o 276 e (by omega) (by omega), o 277 e (by omega) (by omega), v, v, v, if_neg (by omega), if_neg (by omega), if_neg (by omega), if_neg (by omega), if_neg (by omega), if_neg (by omega), if_neg (by omega), if_neg (by omega), if_neg (by omega), if_neg (by omega), if_neg (by omega), if_neg (by omega)]
      exact a7 e (by omega)
  · rw [o 263 0 (by omega) (by omega)] at hk
    rw [v2]; exact a8 k hk
  · rw [o 263 1 (by omega) (by omega)] at hk
    rw [v2]; exact a9 k hk
