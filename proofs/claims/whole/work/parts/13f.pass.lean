/-! nights, the class's side: one night, some nights -/
def mk_tm (A : mk_A) (d : Nat → Nat) (T U : Nat) : Nat := if U &&& T = U then mk_sh (mk_hr A U) U T (A 263 0) * d U / 1000000 else 0
theorem mk_nt_tm {A : mk_A} {d : Nat → Nat} {T : Nat} : mk_nt A d T = mk_sum (mk_tm A d T) (2 ^ A 263 0) := rfl
theorem mx_spread {A : mk_A} {E : mk_E} {t U : Nat} {d : Nat → Nat} {h : mm_H} (hT : mk_T A) (hX : mk_XT A E t h) (hU : U < 2 ^ A 263 0) (hd : d U ≤ 1000000) (h72 : h.2.1 72 U = Int64.ofNat (d U)) (hq : ∀ q, q < A 263 0 → h.2.1 74 q = Int64.ofNat (mk_hr A U q)) (h73 : ∀ T, T < 2 ^ A 263 0 → h.2.1 73 T = Int64.ofNat (mk_sum (mk_tm A d T) U)) : mk_ok (f_Ni_spread t (Int32.ofNat U) (Int32.ofNat (2 ^ A 263 0)) h) (fun v => mk_ch (fun c => c = 73) h v ∧ ∀ T, T < 2 ^ A 263 0 → v.2.1 73 T = Int64.ofNat (mk_sum (mk_tm A d T) (U + 1))) := by
  have hP := hT.1.1
  have h64 := mk_pow6 hP
  unfold f_Ni_spread
  rw [if_pos (mk_tt hX.1).1]
  have en : ∀ T, mk_sum (mk_tm A d T) (U + 1) = mk_sum (mk_tm A d T) U + mk_tm A d T U := fun _ => rfl
  have low : ∀ T, T < U → mk_tm A d T U = 0 := fun T h => by
    unfold mk_tm
    rw [if_neg (fun z => by have := Nat.and_le_right (n := U) (m := T); omega)]
  refine mk_ok.bind (mk_ok.for (ρ := mm_H) (2 ^ A 263 0 - U) (fun i (s : Int32 × mm_H) => s.1 = Int32.ofNat (U + i) ∧ mk_ch (fun c => c = 73) h s.2 ∧ ∀ T, T < 2 ^ A 263 0 → s.2.2.1 73 T = Int64.ofNat (if T < U + i then mk_sum (mk_tm A d T) (U + 1) else mk_sum (mk_tm A d T) U)) (Q := fun v : mm_H => mk_ch (fun c => c = 73) h v ∧ ∀ T, T < 2 ^ A 263 0 → v.2.1 73 T = Int64.ofNat (mk_sum (mk_tm A d T) (U + 1))) ⟨rfl, mk_ch.rf, fun T hTT => ?_⟩ (fun i s hi ⟨e1, q1, q2⟩ => ?_) (fun s ⟨e1, q1, q2⟩ => ?_)) (fun v q => mk_ok.ret q)
  · rw [h73 T hTT]
    by_cases c : T < U + 0
    · rw [if_pos c, en, low T (by omega), Nat.add_zero]
    · rw [if_neg c]
  · rw [show U + (i + 1) = (U + i) + 1 by omega]
    generalize hn : U + i = n at e1 q2 ⊢
    have hn2 : n < 2 ^ A 263 0 := by omega
    have X' := hX.ch q1 (fun c z => by have := hX.1; omega)
    have al : n &&& U ≤ n := Nat.and_le_left
    rw [e1, if_neg (fun z => absurd ((mn_le (by omega) (by omega)).mp z) (show ¬ 2 ^ A 263 0 ≤ n by omega)), mn_and]
    have Z : (Int32.ofNat (n &&& U) = Int32.ofNat U) ↔ U &&& n = U := by rw [mn_eq (by omega) (by omega), Nat.and_comm]
    refine mk_ok.bind (Q := fun v : mm_H => mk_ch (fun c => c = 73) h v ∧ ∀ T, T < 2 ^ A 263 0 → v.2.1 73 T = Int64.ofNat (if T < n + 1 then mk_sum (mk_tm A d T) (U + 1) else mk_sum (mk_tm A d T) U)) ?_ (fun v q => ?_)
    · by_cases c : U &&& n = U
      · have tm : mk_tm A d n U = mk_sh (mk_hr A U) U n (A 263 0) * d U / 1000000 := if_pos c
        have sl := mk_sh_le (hr := mk_hr A U) (U := U) (T := n) (fun i => Nat.sub_le _ _) (A 263 0)
        have ml := Nat.mul_le_mul sl hd
        rw [if_pos (Z.mpr c), mk_bs (mn_ix (show n < 64 by omega) (by omega)), mk_bs (mx_share hT X' hU hn2 (fun q hqq => by rw [q1.e2 (by omega)]; exact hq q hqq)), mk_bs (mn_ix (show U < 64 by omega) (by omega)), mk_bs (mn_ix (show n < 64 by omega) (by omega)), q2 n hn2, if_neg (by omega), q1.e2 (c := 72) (by omega), h72]
        have ev : Int64.ofNat (mk_sum (mk_tm A d n) U) + Int64.ofNat (mk_sh (mk_hr A U) U n (A 263 0)) * Int64.ofNat (d U) / 1000000 = Int64.ofNat (mk_sum (mk_tm A d n) (U + 1)) := by
          rw [mn_mul64]
          show _ + Int64.ofNat (mk_sh (mk_hr A U) U n (A 263 0) * d U) / Int64.ofNat 1000000 = _
          rw [mn_div64 (by omega) (by omega), mn_ladd64, en, tm]
        rw [ev]
        refine mk_ok.let (mk_ok.ret ⟨q1.tr (mk_ch.pL (D := fun c => c = 73) rfl) (fun _ z => z) (fun _ z => z), fun T hTT => ?_⟩)
        rw [mp_L2]
        by_cases e : T = n
        · rw [if_pos ⟨rfl, e⟩, e, if_pos (by omega)]
        · rw [if_neg (fun z => e z.2), q2 T hTT]
          by_cases l : T < n
          · rw [if_pos l, if_pos (by omega)]
          · rw [if_neg l, if_neg (by omega)]
      · have tm : mk_tm A d n U = 0 := if_neg c
        rw [if_neg (fun z => c (Z.mp z))]
        refine mk_ok.ret ⟨q1, fun T hTT => ?_⟩
        rw [q2 T hTT]
        by_cases e : T = n
        · subst e; rw [if_neg (by omega), if_pos (by omega), en, tm, Nat.add_zero]
        · by_cases l : T < n
          · rw [if_pos l, if_pos (by omega)]
          · rw [if_neg l, if_neg (by omega)]
    · refine mk_ok.let ?_
      rw [mn_addl 1]
      exact mk_ok.inl ⟨rfl, q⟩
  · rw [e1, if_pos ((mn_le (by omega) (by omega)).mpr (by omega))]
    refine mk_ok.inr ⟨q1, fun T hTT => ?_⟩
    rw [q2 T hTT, if_pos (by omega)]
