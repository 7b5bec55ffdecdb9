/-! nights, the reference's side: who hears -/
def mk_lvE (A : mk_A) (i q v n : Nat) : Nat := if mk_ear A i q n = 0 then v else v * (10 - min 10 (mk_ear A i q n - 1 + (if A 266 i = 1 then 1 else 0))) / 10
theorem mk_lvE_end {A : mk_A} {i q v : Nat} : mk_lvE A i q v (A 263 2) = v * (10 - (mk_chc A i q - 1)) / 10 := by
  unfold mk_lvE mk_chc
  by_cases c : mk_ear A i q (A 263 2) = 0
  · rw [if_pos c, if_pos c]
    exact (mk_mul10 v).symm
  · rw [if_neg c, if_neg c, Nat.add_sub_cancel]
theorem mi_laysHears {A : mk_A} {E : mk_E} {U : Nat} {h : mm_H} (hT : mk_T A) (hM : mk_MT A E h) (hU : U < 2 ^ A 263 0) : mk_ok (f_M_laysHears (Int32.ofNat U) h) (fun v => mk_ch (fun c => c = 312) h v ∧ ∀ q, q < A 263 0 → v.1 312 q = Int32.ofNat (mk_hr A U q)) := by
  have hP := hT.1.1
  have h64 := mk_pow6 hP
  have hE := hT.1.2.2.1
  unfold f_M_laysHears
  refine mk_ok.bind (mk_ok.for (ρ := mm_H) (A 263 0) (fun q (s : Int32 × mm_H) => s.1 = Int32.ofNat q ∧ mk_ch (fun c => c = 312) h s.2 ∧ ∀ x, x < q → s.2.1 312 x = Int32.ofNat (mk_hr A U x)) (Q := fun v : mm_H => mk_ch (fun c => c = 312) h v ∧ ∀ q, q < A 263 0 → v.1 312 q = Int32.ofNat (mk_hr A U q)) ⟨rfl, mk_ch.rf, fun x hx => absurd hx (by omega)⟩ (fun q s hq ⟨e1, q1, q2⟩ => ?_) (fun s ⟨e1, q1, q2⟩ => ?_)) (fun v q => mk_ok.ret q)
  · have M' := hM.ch q1 (fun c z => by omega)
    rw [M'.1 0 (by omega), e1, if_neg (fun z => absurd ((mn_le (by omega) (by omega)).mp z) (show ¬ A 263 0 ≤ q by omega))]
    refine mk_ok.bind (mk_ok.for (ρ := Int32) (A 263 0) (fun i (y : Int32 × Int32) => y.2 = Int32.ofNat i ∧ y.1 = Int32.ofNat (mk_lv A U q i)) (Q := fun v => v = Int32.ofNat (mk_lv A U q (A 263 0))) ⟨rfl, rfl⟩ (fun i y hi ⟨f1, f2⟩ => ?_) (fun y ⟨f1, f2⟩ => ?_)) (fun v10 b => ?_)
    · have lv := mk_lv_le (A := A) (U := U) (q := q) i
      have en : mk_lv A U q (i + 1) = if (U.testBit i && mk_sp A i) = true then mk_lv A U q i * (10 - (mk_chc A i q - 1)) / 10 else mk_lv A U q i := rfl
      rw [f1, if_neg (fun z => absurd ((mn_le (by omega) (by omega)).mp z) (show ¬ A 263 0 ≤ i by omega)), mn_bit (by omega) (by omega), f2, en]
      generalize mk_lv A U q i = v0 at lv ⊢
      refine mk_ok.bind (Q := fun v => v = Int32.ofNat (if (U.testBit i && mk_sp A i) = true then v0 * (10 - (mk_chc A i q - 1)) / 10 else v0)) ?_ (fun v qv => ?_)
      · cases c : U.testBit i
        · rw [if_pos (by decide), Bool.false_and, if_neg (by decide)]
          exact mk_ok.ret rfl
        · rw [if_neg (by decide), Bool.true_and, mk_bs (mi_speaks hT M' hi)]
          cases d : mk_sp A i
          · rw [if_pos (by decide), if_neg (by decide)]
            exact mk_ok.ret rfl
          · rw [if_neg (by decide), if_pos (show true = true from rfl), ← mk_lvE_end]
            refine mk_ok.bind (mk_ok.for (ρ := Int32) (A 263 2) (fun e (y : Int32 × Int32) => y.2 = Int32.ofNat e ∧ y.1 = Int32.ofNat (mk_lvE A i q v0 e)) (Q := fun v => v = Int32.ofNat (mk_lvE A i q v0 (A 263 2))) ⟨rfl, rfl⟩ (fun e y he ⟨g1, g2⟩ => ?_) (fun y ⟨g1, g2⟩ => ?_)) (fun v qv => mk_ok.ret qv)
            · obtain ⟨t1, t2, t3, t4⟩ := hT.2.2.2.1 e he
              have ix : mm_ix (Int32.ofNat e) 60 = some e := mn_ix (by omega) (by omega)
              rw [M'.1 2 (by omega), g1, if_neg (fun z => absurd ((mn_le (by omega) (by omega)).mp z) (show ¬ A 263 2 ≤ e by omega)), mk_bs ix, mk_bs ix, (M'.2.2.2.1 e (by omega)).1, (M'.2.2.2.1 e (by omega)).2.1, g2]
              have er : mk_ear A i q (e + 1) = if A 275 e = i ∧ A 276 e = q then A 277 e + 1 else mk_ear A i q e := rfl
              refine mk_ok.bs (v := Int32.ofNat (mk_lvE A i q v0 (e + 1))) ?_ ?_
              · by_cases c1 : A 275 e = i
                · rw [if_pos (by rw [c1])]
                  by_cases c2 : A 276 e = q
                  · have none : mk_ear A i q e = 0 := mk_ear_no e (fun k hk z => hT.2.2.2.2 e k he hk ⟨c1.trans z.1.symm, c2.trans z.2.symm⟩)
                    have a1 : mk_lvE A i q v0 e = v0 := if_pos none
                    have a2 : mk_lvE A i q v0 (e + 1) = v0 * (10 - min 10 (A 277 e + (if A 266 (A 275 e) = 1 then 1 else 0))) / 10 := by
                      have er' : mk_ear A i q (e + 1) = A 277 e + 1 := by rw [er, if_pos ⟨c1, c2⟩]
                      unfold mk_lvE
                      rw [er', if_neg (show ¬ A 277 e + 1 = 0 by omega), Nat.add_sub_cancel, c1]
                    rw [if_pos (by rw [c2]), mk_bs (mi_chanceOf hT M' he), a1, a2]
                    generalize (if A 266 (A 275 e) = 1 then 1 else 0) = w
                    have e10 : (10 : Int32) - Int32.ofNat (min 10 (A 277 e + w)) = Int32.ofNat (10 - min 10 (A 277 e + w)) := mn_sub (a := 10) (Nat.min_le_left _ _)
                    have ml : v0 * (10 - min 10 (A 277 e + w)) ≤ v0 * 10 := Nat.mul_le_mul_left _ (Nat.sub_le _ _)
                    rw [e10, mn_mul]
                    show some (Int32.ofNat (v0 * (10 - min 10 (A 277 e + w))) / Int32.ofNat 10) = _
                    rw [mn_div (by omega) (by omega)]
                  · rw [if_neg (fun z => c2 ((mn_eq (by omega) (by omega)).mp z))]
                    have : mk_lvE A i q v0 (e + 1) = mk_lvE A i q v0 e := by
                      have er' : mk_ear A i q (e + 1) = mk_ear A i q e := by rw [er, if_neg (fun z => c2 z.2)]
                      unfold mk_lvE; rw [er']
                    rw [this]
                · rw [if_neg (fun z => c1 ((mn_eq (by omega) (by omega)).mp z))]
                  have : mk_lvE A i q v0 (e + 1) = mk_lvE A i q v0 e := by
                    have er' : mk_ear A i q (e + 1) = mk_ear A i q e := by rw [er, if_neg (fun z => c1 z.1)]
                    unfold mk_lvE; rw [er']
                  rw [this]
              · refine mk_ok.let ?_
                rw [mn_addl 1]
                exact mk_ok.inl ⟨rfl, rfl⟩
            · rw [M'.1 2 (by omega), g1, if_pos (Int32.le_refl _)]
              exact mk_ok.inr g2
      · refine mk_ok.let ?_
        rw [mn_addl 1]
        exact mk_ok.inl ⟨rfl, qv⟩
    · rw [f1, if_pos (Int32.le_refl _)]
      exact mk_ok.inr f2
    have lv := mk_lv_le (A := A) (U := U) (q := q) (A 263 0)
    have e6 : (1000000 : Int32) - Int32.ofNat (mk_lv A U q (A 263 0)) = Int32.ofNat (mk_hr A U q) := mn_sub (a := 1000000) lv
    rw [mk_bs (mn_ix (show q < 6 by omega) (by omega)), b, e6]
    refine mk_ok.let ?_
    refine mk_ok.let ?_
    rw [mn_addl 1]
    refine mk_ok.inl ⟨rfl, q1.tr (mk_ch.pI (D := fun c => c = 312) rfl) (fun _ z => z) (fun _ z => z), fun x hx => ?_⟩
    rw [mp_I1]
    by_cases e : x = q
    · rw [if_pos ⟨rfl, e⟩, e]
    · rw [if_neg (fun z => e z.2)]; exact q2 x (by omega)
  · have M' := hM.ch q1 (fun c z => by omega)
    rw [M'.1 0 (by omega), e1, if_pos (Int32.le_refl _)]
    exact mk_ok.inr ⟨q1, q2⟩
