theorem mi_night {A : mk_A} {E : mk_E} {d : Nat → Nat} {h : mm_H} (hT : mk_T A) (hM : mk_MT A E h) (hd : ∀ s, s < 2 ^ A 263 0 → d s ≤ 1000000) (h310 : ∀ s, s < 64 → h.1 310 s = Int32.ofNat (if s < 2 ^ A 263 0 then d s else 0)) : mk_ok (f_M_night h) (fun v => mk_ch (fun c => 310 ≤ c ∧ c ≤ 312) h v ∧ ∀ s, s < 64 → v.1 310 s = Int32.ofNat (if s < 2 ^ A 263 0 then mk_nt A d s else 0)) := by
  have hP := hT.1.1
  have h64 := mk_pow6 hP
  have hpos : 0 < 2 ^ A 263 0 := Nat.two_pow_pos _
  have mka : ((1 : Int32) <<< (Int32.ofNat (A 263 0) &&& 31)) - 1 = Int32.ofNat (2 ^ A 263 0 - 1) := mk_all (by omega)
  unfold f_M_night
  rw [hM.1 0 (by omega), mka]
  refine mk_ok.let ?_
  refine mk_ok.bind (mk_ok.for (ρ := mm_H) 64 (fun i (s : Int32 × mm_H) => s.1 = Int32.ofNat i ∧ mk_ch (fun c => c = 311 ∨ c = 312) h s.2 ∧ ∀ j, j < i → s.2.1 311 j = 0) (Q := fun v : mm_H => mk_ch (fun c => c = 311 ∨ c = 312) h v ∧ ∀ j, j < 64 → v.1 311 j = 0) ⟨rfl, mk_ch.rf, fun j hj => absurd hj (by omega)⟩ (fun i s hi ⟨e1, q1, q2⟩ => ?_) (fun s ⟨e1, q1, q2⟩ => ?_)) (fun v6 ⟨a1, a2⟩ => ?_)
  · rw [e1, if_neg (fun z => absurd ((mn_lle (b := 64) (show i < 2147483648 by omega) (by decide)).mp z) (show ¬ 64 ≤ i by omega))]
    refine mk_ok.bs (mn_ix hi (by omega)) ?_
    refine mk_ok.let ?_
    refine mk_ok.let ?_
    rw [mn_addl 1]
    refine mk_ok.inl ⟨rfl, q1.tr (mk_ch.pI (D := fun c => c = 311 ∨ c = 312) (Or.inl rfl)) (fun _ z => z) (fun _ z => z), fun j hj => ?_⟩
    rw [mp_I1]
    by_cases e : j = i
    · rw [if_pos ⟨rfl, e⟩]
    · rw [if_neg (fun z => e z.2)]; exact q2 j (by omega)
  · rw [e1, if_pos (by decide)]
    exact mk_ok.inr ⟨q1, q2⟩
  have en : ∀ T U, mk_sum (mk_tm A d T) (U + 1) = mk_sum (mk_tm A d T) U + mk_tm A d T U := fun _ _ => rfl
  refine mk_ok.bind (mk_ok.for (ρ := mm_H) (2 ^ A 263 0) (fun i (s : Int32 × mm_H) => s.1 = Int32.ofNat i ∧ mk_ch (fun c => c = 311 ∨ c = 312) h s.2 ∧ ∀ T, T < 64 → s.2.1 311 T = Int32.ofNat (if T < 2 ^ A 263 0 then mk_sum (mk_tm A d T) i else 0)) (Q := fun v : mm_H => mk_ch (fun c => c = 311 ∨ c = 312) h v ∧ ∀ T, T < 64 → v.1 311 T = Int32.ofNat (if T < 2 ^ A 263 0 then mk_nt A d T else 0)) ⟨rfl, a1, fun T hTT => by rw [a2 T hTT]; split <;> rfl⟩ (fun U s hU ⟨e1, q1, q2⟩ => ?_) (fun s ⟨e1, q1, q2⟩ => ?_)) (fun v21 ⟨b1, b2⟩ => ?_)
  · have M' := hM.ch q1 (fun c z => by omega)
    have e310 : s.2.1 310 U = Int32.ofNat (d U) := by rw [q1.e1 (by omega), h310 U (by omega), if_pos hU]
    have dU := hd U hU
    rw [e1, if_neg (fun z => absurd ((mn_lt (by omega) (by omega)).mp z) (show ¬ 2 ^ A 263 0 - 1 < U by omega)), mk_bs (mn_ix (show U < 64 by omega) (by omega)), e310]
    refine mk_ok.bind (Q := fun v : mm_H => mk_ch (fun c => c = 311 ∨ c = 312) h v ∧ ∀ T, T < 64 → v.1 311 T = Int32.ofNat (if T < 2 ^ A 263 0 then mk_sum (mk_tm A d T) (U + 1) else 0)) ?_ (fun v q => ?_)
    · by_cases z : d U = 0
      · rw [if_pos ((mn_eql (b := 0) (show d U < 4294967296 by omega) (by decide)).mpr z)]
        refine mk_ok.ret ⟨q1, fun T hTT => ?_⟩
        have : mk_tm A d T U = 0 := by
          unfold mk_tm
          rw [z, Nat.mul_zero, Nat.zero_div]
          split <;> rfl
        rw [en, this, Nat.add_zero]; exact q2 T hTT
      · rw [if_neg (fun y => z ((mn_eql (b := 0) (show d U < 4294967296 by omega) (by decide)).mp y))]
        refine mk_ok.bind (mi_laysHears hT M' hU) (fun v29 ⟨c1, c2⟩ => ?_)
        have k29 := q1.tr c1 (fun _ z => z) (fun c z => (Or.inr z : c = 311 ∨ c = 312))
        have low : ∀ T, T < U → mk_tm A d T U = 0 := fun T h => by
          unfold mk_tm
          rw [if_neg (fun z => by have := Nat.and_le_right (n := U) (m := T); omega)]
        refine mk_ok.bind (mk_ok.for (ρ := mm_H) (2 ^ A 263 0 - U) (fun i (y : Int32 × mm_H) => y.1 = Int32.ofNat (U + i) ∧ mk_ch (fun c => c = 311) v29 y.2 ∧ ∀ T, T < 64 → y.2.1 311 T = Int32.ofNat (if T < 2 ^ A 263 0 then (if T < U + i then mk_sum (mk_tm A d T) (U + 1) else mk_sum (mk_tm A d T) U) else 0)) (Q := fun v : mm_H => mk_ch (fun c => c = 311) v29 v ∧ ∀ T, T < 64 → v.1 311 T = Int32.ofNat (if T < 2 ^ A 263 0 then mk_sum (mk_tm A d T) (U + 1) else 0)) ⟨rfl, mk_ch.rf, fun T hTT => ?_⟩ (fun i y hi ⟨f1, f2, f3⟩ => ?_) (fun y ⟨f1, f2, f3⟩ => ?_)) (fun v33 ⟨g1, g2⟩ => mk_ok.ret ⟨k29.tr g1 (fun _ z => z) (fun c z => Or.inl z), g2⟩)
        · rw [c1.e1 (by omega), q2 T hTT]
          by_cases l : T < U + 0
          · rw [if_pos l, en, low T (by omega), Nat.add_zero]
          · rw [if_neg l]
        · rw [show U + (i + 1) = (U + i) + 1 by omega]
          generalize hn : U + i = n at f1 f3 ⊢
          have hn2 : n < 2 ^ A 263 0 := by omega
          have M2 := (M'.ch c1 (fun c z => by omega)).ch f2 (fun c z => by omega)
          have dl : mk_dif U n ≤ U := mk_sub_le mk_dif_sub
          rw [f1, if_neg (fun z => absurd ((mn_lt (by omega) (by omega)).mp z) (show ¬ 2 ^ A 263 0 - 1 < n by omega)), mn_dif]
          have Z : (Int32.ofNat (mk_dif U n) = 0) ↔ U &&& n = U := by rw [← mk_dif_and]; exact mn_eql (b := 0) (show mk_dif U n < 4294967296 by omega) (by decide)
          refine mk_ok.bind (Q := fun v : mm_H => mk_ch (fun c => c = 311) v29 v ∧ ∀ T, T < 64 → v.1 311 T = Int32.ofNat (if T < 2 ^ A 263 0 then (if T < n + 1 then mk_sum (mk_tm A d T) (U + 1) else mk_sum (mk_tm A d T) U) else 0)) ?_ (fun v q => ?_)
          · by_cases c : U &&& n = U
            · have tm : mk_tm A d n U = mk_sh (mk_hr A U) U n (A 263 0) * d U / 1000000 := if_pos c
              have sl := mk_sh_le (hr := mk_hr A U) (U := U) (T := n) (fun i => Nat.sub_le _ _) (A 263 0)
              have ml := Nat.mul_le_mul sl dU
              have e310' : y.2.1 310 U = Int32.ofNat (d U) := by rw [f2.e1 (by omega), c1.e1 (by omega)]; exact e310
              rw [if_pos (Z.mpr c), mk_bs (mi_share hT M2 hU hn2 (fun q hqq => by rw [f2.e1 (by omega)]; exact c2 q hqq)), mk_bs (mn_ix (show n < 64 by omega) (by omega)), mk_bs (mn_ix (show U < 64 by omega) (by omega)), mk_bs (mn_ix (show n < 64 by omega) (by omega)), f3 n (by omega), if_pos hn2, if_neg (show ¬ n < n by omega), e310', mn_3264 (by omega)]
              have ev : Int32.ofNat (mk_sum (mk_tm A d n) U) + Int64.toInt32 (Int64.ofNat (mk_sh (mk_hr A U) U n (A 263 0)) * Int64.ofNat (d U) / 1000000) = Int32.ofNat (mk_sum (mk_tm A d n) (U + 1)) := by
                rw [mn_mul64]
                show _ + Int64.toInt32 (Int64.ofNat (mk_sh (mk_hr A U) U n (A 263 0) * d U) / Int64.ofNat 1000000) = _
                rw [mn_div64 (by omega) (by omega), mn_6432, mn_add, en, tm]
              rw [ev]
              refine mk_ok.let (mk_ok.ret ⟨f2.tr (mk_ch.pI (D := fun c => c = 311) rfl) (fun _ z => z) (fun _ z => z), fun T hTT => ?_⟩)
              rw [mp_I1]
              by_cases e : T = n
              · rw [if_pos ⟨rfl, e⟩, e, if_pos hn2, if_pos (by omega)]
              · rw [if_neg (fun z => e z.2), f3 T hTT]
                by_cases l : T < n
                · rw [if_pos l, if_pos (show T < n + 1 by omega)]
                · rw [if_neg l, if_neg (show ¬ T < n + 1 by omega)]
            · have tm : mk_tm A d n U = 0 := if_neg c
              rw [if_neg (fun z => c (Z.mp z))]
              refine mk_ok.ret ⟨f2, fun T hTT => ?_⟩
              rw [f3 T hTT]
              by_cases e : T = n
              · subst e; rw [if_neg (show ¬ T < T by omega), if_pos (show T < T + 1 by omega), en, tm, Nat.add_zero]
              · by_cases l : T < n
                · rw [if_pos l, if_pos (show T < n + 1 by omega)]
                · rw [if_neg l, if_neg (show ¬ T < n + 1 by omega)]
          · refine mk_ok.let ?_
            rw [mn_addl 1]
            exact mk_ok.inl ⟨rfl, q⟩
        · rw [f1, if_pos ((mn_lt (by omega) (by omega)).mpr (by omega))]
          refine mk_ok.inr ⟨f2, fun T hTT => ?_⟩
          rw [f3 T hTT]
          by_cases l : T < 2 ^ A 263 0
          · rw [if_pos l, if_pos l, if_pos (by omega)]
          · rw [if_neg l, if_neg l]
    · refine mk_ok.let ?_
      rw [mn_addl 1]
      exact mk_ok.inl ⟨rfl, q⟩
  · rw [e1, if_pos ((mn_lt (by omega) (by omega)).mpr (by omega))]
    exact mk_ok.inr ⟨q1, q2⟩
  refine mk_ok.bind (mk_ok.for (ρ := mm_H) 64 (fun i (s : Int32 × mm_H) => s.1 = Int32.ofNat i ∧ mk_ch (fun c => c = 310) v21 s.2 ∧ ∀ j, j < i → s.2.1 310 j = v21.1 311 j) (Q := fun v : mm_H => mk_ch (fun c => c = 310) v21 v ∧ ∀ j, j < 64 → v.1 310 j = v21.1 311 j) ⟨rfl, mk_ch.rf, fun j hj => absurd hj (by omega)⟩ (fun i s hi ⟨e1, q1, q2⟩ => ?_) (fun s ⟨e1, q1, q2⟩ => ?_)) (fun v96 ⟨g1, g2⟩ => mk_ok.ret ⟨b1.tr g1 (fun c z => by omega) (fun c z => by omega), fun s hs => by rw [g2 s hs]; exact b2 s hs⟩)
  · rw [e1, if_neg (fun z => absurd ((mn_lle (b := 64) (show i < 2147483648 by omega) (by decide)).mp z) (show ¬ 64 ≤ i by omega)), mk_bs (mn_ix hi (by omega)), mk_bs (mn_ix hi (by omega))]
    refine mk_ok.let ?_
    refine mk_ok.let ?_
    rw [mn_addl 1]
    refine mk_ok.inl ⟨rfl, q1.tr (mk_ch.pI (D := fun c => c = 310) rfl) (fun _ z => z) (fun _ z => z), fun j hj => ?_⟩
    rw [mp_I1]
    by_cases e : j = i
    · rw [if_pos ⟨rfl, e⟩, e, q1.e1 (by omega)]
    · rw [if_neg (fun z => e z.2)]; exact q2 j (by omega)
  · rw [e1, if_pos (by decide)]
    exact mk_ok.inr ⟨q1, q2⟩
