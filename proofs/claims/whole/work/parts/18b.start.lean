/-! the start: what holds behind the constructors -/
def ml_A : mk_A := fun c _ => if c = 272 then 1 else 0
theorem ml_T : mk_T ml_A := ⟨⟨Nat.zero_le _, Nat.zero_le _, Nat.zero_le _, Nat.zero_le _⟩, fun p hp => absurd hp (Nat.not_lt_zero p), fun k hk => absurd hk (Nat.not_lt_zero k), fun e he => absurd he (Nat.not_lt_zero e), fun e f he => absurd he (Nat.not_lt_zero e)⟩
theorem ml_W : mk_W ml_A (fun _ => 0) := ⟨fun k hk => absurd hk (Nat.not_lt_zero k), fun p hp => absurd hp (Nat.not_lt_zero p), by decide, by decide, by decide, Nat.zero_le _, fun p k hp => absurd hp (Nat.not_lt_zero p), fun _ _ _ _ _ => rfl⟩
theorem ml_wf : mk_wf ml_A (fun _ => 0) (fun _ _ => 0) := ⟨ml_T, ml_W, ⟨Nat.zero_le _, by decide, fun i hi => absurd hi (Nat.not_lt_zero i)⟩, ⟨by decide, fun m hm hb => absurd (hb.symm.trans (Nat.zero_testBit m)) (by decide)⟩, ⟨Nat.zero_le _, Nat.zero_le _, fun k hk => absurd hk (Nat.not_lt_zero k), fun k hk => absurd hk (Nat.not_lt_zero k)⟩, ⟨Nat.zero_le _, fun k hk => absurd hk (Nat.not_lt_zero k)⟩, fun p hp => absurd hp (Nat.not_lt_zero p), fun k hk => absurd hk (Nat.not_lt_zero k)⟩
theorem ml_z {a k : Nat} (h : ¬ a = 33 ∨ (¬ k = 4 ∧ ¬ k = 8)) : mc_h0.1 a k = 0 := by
  show (if a = 33 ∧ k = 4 then (1 : Int32) else if a = 33 ∧ k = 8 then 32 else 0) = 0
  rw [if_neg (by omega), if_neg (by omega)]
theorem ml_35 : mm_tg 35 = 4 := by decide +kernel
theorem ml_INV : mk_INV mc_h0 := by
  refine ⟨ml_A, none, 79, fun _ => 0, fun _ _ => 0, ml_wf, ⟨⟨rfl, rfl⟩, ?_, ⟨⟨ml_35, fun k hk => absurd hk (Nat.not_lt_zero k), fun p hp => absurd hp (Nat.not_lt_zero p), ml_z (by omega), ml_z (by omega), ml_z (by omega), ml_z (by omega), ml_z (by omega)⟩, fun p q k hp => absurd hp (Nat.not_lt_zero p), fun p hp => absurd hp (Nat.not_lt_zero p)⟩, ⟨ml_z (by omega), ml_z (by omega), fun i hi => absurd hi (Nat.not_lt_zero i)⟩, ⟨ml_z (by omega), fun m hm hb => absurd (hb.symm.trans (Nat.zero_testBit m)) (by decide)⟩, ⟨ml_z (by omega), ml_z (by omega), fun k hk => absurd hk (Nat.not_lt_zero k), fun k hk => absurd hk (Nat.not_lt_zero k)⟩, ⟨ml_z (by omega), fun k hk => absurd hk (Nat.not_lt_zero k)⟩, fun p hp => absurd hp (Nat.not_lt_zero p), fun k hk => absurd hk (Nat.not_lt_zero k)⟩, ⟨⟨fun k hk => ?_, fun p hp => ⟨ml_z (by omega), ml_z (by omega), ml_z (by omega)⟩, fun k hk => ⟨ml_z (by omega), ml_z (by omega), ml_z (by omega), ?_, ml_z (by omega), ml_z (by omega)⟩, fun e he => ⟨ml_z (by omega), ml_z (by omega), ml_z (by omega)⟩, ?_⟩, fun k hk => ml_z (by omega), ⟨ml_z (by omega), fun i hi => absurd hi (Nat.not_lt_zero i)⟩, fun m hm => ⟨?_, fun hb => absurd (hb.symm.trans (Nat.zero_testBit m)) (by decide)⟩, ⟨ml_z (by omega), ml_z (by omega), fun k hk => absurd hk (Nat.not_lt_zero k), fun k hk => absurd hk (Nat.not_lt_zero k)⟩, ⟨ml_z (by omega), fun k hk => absurd hk (Nat.not_lt_zero k)⟩, fun p hp => absurd hp (Nat.not_lt_zero p), fun k hk => absurd hk (Nat.not_lt_zero k)⟩⟩
  · exact ⟨Or.inl rfl, ⟨ml_z (by omega), ml_z (by omega), ml_z (by omega), ml_z (by omega), ml_z (by omega), ml_z (by omega)⟩, fun p hp => absurd hp (Nat.not_lt_zero p), fun k hk => absurd hk (Nat.not_lt_zero k), fun e he => absurd he (Nat.not_lt_zero e), fun p q hp => absurd hp (Nat.not_lt_zero p), ml_z (by omega)⟩
  · exact ml_z (by omega)
  · rw [ml_z (by omega)]
    show (0 : Int32) = Int32.ofNat 1 - 1
    decide
  · exact (ml_z (a := 279) (k := 0) (by omega)).trans (ml_z (a := 278) (k := 0) (by omega)).symm
  · rw [ml_z (by omega), Nat.zero_testBit]; rfl
theorem ml_pure {L : Nat} {xs : Nat → Int32} (hL : L ≤ 3584) : f_law L xs mc_h0 = some 1 := ml_law hL ml_INV
