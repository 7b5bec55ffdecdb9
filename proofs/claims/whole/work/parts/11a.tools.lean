/-! PURE TOOLS: loops with an invariant and a measure, two loops side by side, reading behind writing, index tests -/
theorem mp_loop {σ ρ : Type} {step : σ → Option (σ ⊕ ρ)} (I : σ → Prop) (μ : σ → Nat) (Q : ρ → Prop)
    (H : ∀ s, I s → (∃ s', step s = some (.inl s') ∧ I s' ∧ μ s' < μ s) ∨ (∃ r, step s = some (.inr r) ∧ Q r)) : ∀ s, I s → ∃ r, mm_while step s = some r ∧ Q r := by
  have key : ∀ (n : Nat) (s : σ), μ s ≤ n → I s → ∃ r, mm_while step s = some r ∧ Q r := by
    intro n
    induction n with
    | zero =>
      intro s hn hI
      rcases H s hI with ⟨s', h1, -, h3⟩ | ⟨r, h1, h2⟩
      · omega
      · exact ⟨r, mm_while_inr h1, h2⟩
    | succ n ih =>
      intro s hn hI
      rcases H s hI with ⟨s', h1, h2, h3⟩ | ⟨r, h1, h2⟩
      · rw [mm_while_inl h1]
        exact ih s' (by omega) h2
      · exact ⟨r, mm_while_inr h1, h2⟩
  exact fun s hI => key (μ s) s (Nat.le_refl _) hI
def mp_rel {σ1 σ2 ρ1 ρ2 : Type} (R : σ1 → σ2 → Prop) (Q : ρ1 → ρ2 → Prop) : σ1 ⊕ ρ1 → σ2 ⊕ ρ2 → Prop
  | .inl a, .inl b => R a b
  | .inr a, .inr b => Q a b
  | _, _ => False
/-- what one loop answers, the other answers in its own words -/
theorem mp_sim {σ1 σ2 ρ1 ρ2 : Type} {step1 : σ1 → Option (σ1 ⊕ ρ1)} {step2 : σ2 → Option (σ2 ⊕ ρ2)} (R : σ1 → σ2 → Prop) (Q : ρ1 → ρ2 → Prop)
    (H : ∀ s1 s2 x1, R s1 s2 → step1 s1 = some x1 → ∃ x2, step2 s2 = some x2 ∧ mp_rel R Q x1 x2) {s1 : σ1} {s2 : σ2} {r1 : ρ1} (hR : R s1 s2) (h1 : mm_while step1 s1 = some r1) : ∃ r2, mm_while step2 s2 = some r2 ∧ Q r1 r2 := by
  refine mm_while_ind (fun s1 => ∀ s2, R s1 s2 → ∃ r2, mm_while step2 s2 = some r2 ∧ Q r1 r2) h1 (fun s x hs hx => ?_) s2 hR
  intro s2 hR
  obtain ⟨x2, e2, hr⟩ := H s s2 x hR hs
  cases x with
  | inl a =>
    cases x2 with
    | inl b =>
      rw [mm_while_inl e2]
      exact mm_wxL hx b hr
    | inr b => exact absurd hr id
  | inr a =>
    cases x2 with
    | inl b => exact absurd hr id
    | inr b =>
      have hw : a = r1 := hx
      subst hw
      exact ⟨b, mm_while_inr e2, hr⟩
theorem mp_I1 (h : mm_H) (a k : Nat) (v : Int32) (b j : Nat) : (mm_pI h a k v).1 b j = if b = a ∧ j = k then v else h.1 b j := rfl
theorem mp_I2 (h : mm_H) (a k : Nat) (v : Int32) : (mm_pI h a k v).2 = h.2 := rfl
theorem mp_L1 (h : mm_H) (a k : Nat) (v : Int64) : (mm_pL h a k v).1 = h.1 := rfl
theorem mp_L2 (h : mm_H) (a k : Nat) (v : Int64) (b j : Nat) : (mm_pL h a k v).2.1 b j = if b = a ∧ j = k then v else h.2.1 b j := rfl
theorem mp_L3 (h : mm_H) (a k : Nat) (v : Int64) : (mm_pL h a k v).2.2 = h.2.2 := rfl
theorem mp_R1 (h : mm_H) (a k : Nat) (v : Option Nat) : (mm_pR h a k v).1 = h.1 := rfl
theorem mp_R2 (h : mm_H) (a k : Nat) (v : Option Nat) : (mm_pR h a k v).2.1 = h.2.1 := rfl
theorem mp_R3 (h : mm_H) (a k : Nat) (v : Option Nat) (b j : Nat) : (mm_pR h a k v).2.2 b j = if b = a ∧ j = k then v else h.2.2 b j := rfl
theorem mp_c1 (h : mm_H) (a b n c j : Nat) : (mm_cpI h a b n).1 c j = if c = b ∧ j < n then h.1 a j else h.1 c j := rfl
theorem mp_c2 (h : mm_H) (a b n : Nat) : (mm_cpI h a b n).2 = h.2 := rfl
theorem mp_d1 (h : mm_H) (a b n : Nat) : (mm_cpL h a b n).1 = h.1 := rfl
theorem mp_d2 (h : mm_H) (a b n c j : Nat) : (mm_cpL h a b n).2.1 c j = if c = b ∧ j < n then h.2.1 a j else h.2.1 c j := rfl
theorem mp_d3 (h : mm_H) (a b n : Nat) : (mm_cpL h a b n).2.2 = h.2.2 := rfl
theorem mp_ofNat_toNat {k : Nat} (h : k < 2 ^ 31) : (Int32.ofNat k).toNatClampNeg = k := Int32.toNatClampNeg_ofNat_of_lt h
theorem mp_ofNat_toInt {k : Nat} (h : k < 2 ^ 31) : (Int32.ofNat k).toInt = (k : Int) := Int32.toInt_ofNat_of_lt h
theorem mp_ix {k n : Nat} (h : k < n) (hn : n ≤ 2 ^ 31) : mm_ix (Int32.ofNat k) n = some k := by
  unfold mm_ix
  have e := mp_ofNat_toNat (show k < 2 ^ 31 by omega)
  have e2 := mp_ofNat_toInt (show k < 2 ^ 31 by omega)
  have h0 : (0 : Int32) ≤ Int32.ofNat k := by
    rw [Int32.le_iff_toInt_le, e2]
    show (0 : Int) ≤ (k : Int)
    omega
  rw [e, if_pos ⟨h0, h⟩]
theorem mp_ix_of {i : Int32} {n : Nat} (h0 : 0 ≤ i) (h : i.toNatClampNeg < n) : mm_ix i n = some i.toNatClampNeg := by
  unfold mm_ix
  rw [if_pos ⟨h0, h⟩]
theorem mp_ofNat_lt {a b : Nat} (ha : a < 2 ^ 31) (hb : b < 2 ^ 31) : (Int32.ofNat a < Int32.ofNat b) ↔ a < b := by
  rw [Int32.lt_iff_toInt_lt, mp_ofNat_toInt ha, mp_ofNat_toInt hb]
  omega
theorem mp_ofNat_le {a b : Nat} (ha : a < 2 ^ 31) (hb : b < 2 ^ 31) : (Int32.ofNat a ≤ Int32.ofNat b) ↔ a ≤ b := by
  rw [Int32.le_iff_toInt_le, mp_ofNat_toInt ha, mp_ofNat_toInt hb]
  omega
/-- a bit of a set -/
theorem mp_bit (x y : Int32) : f_X_bit x y = some ((x >>> (y &&& 31)) &&& 1) := by
  unfold f_X_bit
  rfl
