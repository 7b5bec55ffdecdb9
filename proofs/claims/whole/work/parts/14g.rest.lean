/-! rests: whether a choice is at rest, the class's side -/
theorem mk_chkr {ρ : Type} {step : Int32 → Option (Int32 ⊕ ρ)} {f : Nat → Bool} {n : Nat} (a b : ρ) (H : ∀ i, i < n → step (Int32.ofNat i) = some (if f i = true then Sum.inl (Int32.ofNat (i + 1)) else Sum.inr b)) (E : step (Int32.ofNat n) = some (Sum.inr a)) : mm_while step 0 = some (if mk_al f n = true then a else b) := by
  have key : ∀ k, k ≤ n → mk_al f (n - k) = true → mm_while step (Int32.ofNat (n - k)) = some (if mk_al f n = true then a else b) := by
    intro k
    induction k with
    | zero =>
      intro _ h
      rw [Nat.sub_zero] at h ⊢
      rw [if_pos h]
      exact mm_while_inr E
    | succ k ih =>
      intro hk h
      have hh := H (n - (k + 1)) (by omega)
      cases c : f (n - (k + 1))
      · rw [c, if_neg (by decide)] at hh
        rw [mk_al_f c n (by omega), if_neg (by decide)]
        exact mm_while_inr hh
      · rw [c, if_pos rfl] at hh
        rw [mm_while_inl hh, show n - (k + 1) + 1 = n - k by omega]
        refine ih (by omega) ?_
        rw [show n - k = n - (k + 1) + 1 by omega]
        show (mk_al f _ && f _) = true
        rw [h, c]; rfl
  have := key n (Nat.le_refl _) (by rw [Nat.sub_self]; rfl)
  rw [Nat.sub_self] at this
  exact this
def mk_rk1 (A : mk_A) (r w g ch : Nat → Nat) (n k y : Nat) : Bool := !mk_my A r (g k) y || decide (mk_shr w ch n k y ≤ mk_shr w ch n k (ch k))
theorem mk_rk1_n {A : mk_A} {r w g ch : Nat → Nat} {n k y : Nat} (h : mk_my A r (g k) y = false) : mk_rk1 A r w g ch n k y = true := by
  unfold mk_rk1; rw [h]; exact Bool.true_or _
theorem mk_rk1_y {A : mk_A} {r w g ch : Nat → Nat} {n k y : Nat} (h : mk_my A r (g k) y = true) : mk_rk1 A r w g ch n k y = decide (mk_shr w ch n k y ≤ mk_shr w ch n k (ch k)) := by
  unfold mk_rk1; rw [h]; exact Bool.false_or _
def mk_rsk (A : mk_A) (r w g ch : Nat → Nat) (n k : Nat) : Bool := mk_al (mk_rk1 A r w g ch n k) 11
theorem mk_my_S {A : mk_A} {r : Nat → Nat} {p y : Nat} (q : mk_my A r p y = true) (hy : ¬ y = 0) : y - 1 < A 263 1 := by
  unfold mk_my at q
  rw [decide_eq_false hy, Bool.false_or, mk_kb_bit, Bool.and_eq_true, decide_eq_true_eq] at q
  exact q.1
theorem mx_rest {A : mk_A} {r w g ch : Nat → Nat} {n : Nat} {h : mm_H} (hT : mk_T A) (hn : n ≤ 3) (h68 : h.1 68 2 = Int32.ofNat n) (h69 : ∀ j, j < n → h.1 69 j = Int32.ofNat (mk_kb A r (g j))) (h70 : ∀ j, j < n → h.1 70 j = Int32.ofNat (ch j) ∧ ch j ≤ 10) (h76 : ∀ k, k < A 263 1 → h.1 76 k = Int32.ofNat (w k) ∧ w k ≤ 99900) (hmy : ∀ j, j < n → mk_my A r (g j) (ch j) = true) : f_Fe_rest 76 h = some (if mk_al (mk_rsk A r w g ch n) n = true then 1 else 0) := by
  unfold f_Fe_rest
  rw [if_pos mk_t76.1]
  refine mk_chkr (f := mk_rsk A r w g ch n) 1 0 (fun k hk => ?_) ?_
  · obtain ⟨c1, c2⟩ := h70 k hk
    rw [h68, if_neg (fun z => absurd ((mn_le (by omega) (by omega)).mp z) (show ¬ n ≤ k by omega)), mk_bs (mn_ix (show k < 3 by omega) (by omega)), c1, mk_bs (mx_shareOf (w := w) (ch := ch) hn (by omega) c2 h68 h70 (fun z => h76 _ (mk_my_S (hmy k hk) z)))]
    refine (mk_chkr (ρ := Int32 ⊕ Int32) (f := mk_rk1 A r w g ch n k) (n := 11) (Sum.inl (Int32.ofNat (k + 1))) (Sum.inr 0) (fun y hy => ?_) ?_).trans ?_
    · rw [if_neg (fun z => absurd ((mn_lle (b := 11) (show y < 2147483648 by omega) (by decide)).mp z) (show ¬ 11 ≤ y by omega)), mk_bs (mx_mayChoose hT (show k < 3 by omega) (show y ≤ 10 by omega) (h69 k hk))]
      simp only [mm_jp, mm_let]
      have ad : Int32.ofNat y + 1 = Int32.ofNat (y + 1) := mn_addl 1 y
      cases m : mk_my A r (g k) y
      · rw [mk_rk1_n m, if_pos (show Int32.ofNat false.toNat = 0 from rfl), if_pos (show true = true from rfl), ad]
      · rw [mk_rk1_y m, if_neg (show ¬ Int32.ofNat true.toNat = 0 by decide), mk_bs (mx_shareOf (w := w) (ch := ch) hn (by omega) (show y ≤ 10 by omega) h68 h70 (fun z => h76 _ (mk_my_S m z)))]
        by_cases q : mk_shr w ch n k y ≤ mk_shr w ch n k (ch k)
        · rw [if_pos q, decide_eq_true q, if_pos (show true = true from rfl), ad]
        · rw [if_neg q, decide_eq_false q, if_neg (show ¬ false = true by decide)]
    · have ad : Int32.ofNat k + 1 = Int32.ofNat (k + 1) := mn_addl 1 k
      rw [if_pos (show (11 : Int32) ≤ Int32.ofNat 11 from Int32.le_refl _)]
      simp only [mm_let]
      rw [ad]
    · show _ = some (if mk_al (mk_rk1 A r w g ch n k) 11 = true then _ else _)
      by_cases q : mk_al (mk_rk1 A r w g ch n k) 11 = true
      · rw [if_pos q]
      · rw [if_neg q]
  · rw [h68, if_pos (Int32.le_refl _)]
