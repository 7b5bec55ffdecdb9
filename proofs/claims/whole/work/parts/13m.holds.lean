theorem mc_holds (x1 x2 : Int32) : mk_call (f_X_holds x1 x2) (f_M_holds x1 x2) := by
  refine mk_callof (fun A E t r u hw => ?_)
  have hT := hw.1
  have hW := hw.2.1
  have hP := hT.1.1
  have hS1 := hT.1.2.1
  by_cases hs : mk_is (A 263 1) x1 ∧ 0 ≤ x2 ∧ x2 ≤ 30
  · obtain ⟨hs, hr⟩ := hs
    obtain ⟨x, hx, rfl⟩ := id hs
    obtain ⟨N, hN, rfl⟩ := mk_upto (n := 30) (by omega) hr
    have rx := mk_p2 hP (hW.1 x hx)
    have b0 := mk_b_le (E := E) (r := r) (n := mk_kn A (r x)) hT hx
    refine ⟨Int32.ofNat (mk_hold A E r x N), r, u, t, hw, fun h hX => ?_, fun h hM => ?_⟩
    · unfold f_X_holds
      refine mk_ok.bind (mx_passNights hw hX hx hN) (fun v2 ⟨a1, a2, a3, a4, a5⟩ => ?_)
      rw [a1, if_neg (show ¬ (1 : Int32) = 0 by decide)]
      refine mk_ok.bs (mx_gT a2.1.1 a2.2.1.1) ?_
      refine mk_ok.bs (mn_ix (show x < 10 by omega) (by omega)) ?_
      have er : v2.2.1 36 x = Int32.ofNat (r x) := a2.2.2.1.1.2.1 x hx
      rw [er]
      refine mk_ok.bs (mx_surety hT hW a2.2.1 hx a4 a5) ?_
      exact mk_ok.ret ⟨mn_6432 _, a2, a3⟩
    · unfold f_M_holds
      refine mk_ok.let ?_
      have p0 : mk_s2m h (mm_pI h 261 0 0) := mk_s2m.pI ⟨by decide, by decide⟩
      have hM1 := hM.s2 p0
      revert p0 hM1
      generalize mm_pI h 261 0 0 = h1
      intro p0 hM1
      rw [mi_isSecret hT hM1.1, if_pos hs]
      refine mk_ok.bs rfl ?_
      rw [if_neg (show ¬ (1 : Int32) = 0 by decide)]
      refine mk_ok.bs (mp_within _ _ _) ?_
      rw [if_pos hr, if_neg (show ¬ (1 : Int32) = 0 by decide)]
      refine mk_ok.bind (mi_nights hT hW hM1.1 hM1.2.1 hx hN) (fun v8 ⟨a1, a2⟩ => ?_)
      have p1 : mk_s2m h1 v8 := mk_s2m.of a1 (fun c z => by unfold mk_sm; omega)
      have M8 := hM1.s2 p1
      refine mk_ok.bs (mn_ix (show x < 123 by omega) (by omega)) ?_
      rw [M8.2.1 x (by omega)]
      refine mk_ok.bind (mi_baseOf hT M8.1 M8.2.1 hx (show r x < 2147483648 by omega)) (fun v12 ⟨c1, c2⟩ => ?_)
      rw [c1]
      refine mk_ok.bind (mk_ok.for (ρ := Int32 × mm_H) 64 (fun i (s : Int32 × Int32 × mm_H) => s.2.1 = Int32.ofNat i ∧ s.1 = Int32.ofNat (mk_sum (fun s => if mk_b A E r x (mk_kn A s) < mk_b A E r x (mk_kn A (r x)) then 0 else mk_d0 A (r x) N s) i) ∧ mk_ch mk_DM v8 s.2.2) (Q := fun v : Int32 × mm_H => v.1 = Int32.ofNat (mk_hold A E r x N) ∧ mk_ch mk_DM v8 v.2) ⟨rfl, rfl, c2⟩ (fun i s hi ⟨e1, e2, q1⟩ => ?_) (fun s ⟨e1, e2, q1⟩ => ?_)) (fun v16 ⟨b1, b2⟩ => ?_)
      · have dl := mk_d0_le (A := A) (k := r x) (N := N) (s := i)
        have bl := mk_b_le (E := E) (r := r) (n := mk_kn A i) hT hx
        have M' := (M8.DM q1).1
        have e310 : ∀ g : mm_H, mk_ch mk_DM v8 g → g.1 310 i = Int32.ofNat (mk_d0 A (r x) N i) := fun g k => by rw [k.e1 (fun z => by unfold mk_DM at z; omega)]; exact a2 i hi
        have en : mk_sum (fun s => if mk_b A E r x (mk_kn A s) < mk_b A E r x (mk_kn A (r x)) then 0 else mk_d0 A (r x) N s) (i + 1) = mk_sum (fun s => if mk_b A E r x (mk_kn A s) < mk_b A E r x (mk_kn A (r x)) then 0 else mk_d0 A (r x) N s) i + (if mk_b A E r x (mk_kn A i) < mk_b A E r x (mk_kn A (r x)) then 0 else mk_d0 A (r x) N i) := rfl
        rw [e1, if_neg (fun z => absurd ((mn_lle (b := 64) (show i < 2147483648 by omega) (by decide)).mp z) (show ¬ 64 ≤ i by omega)), mk_bs (mn_ix hi (by omega)), e310 _ q1, en]
        generalize mk_sum (fun s => if mk_b A E r x (mk_kn A s) < mk_b A E r x (mk_kn A (r x)) then 0 else mk_d0 A (r x) N s) i = acc at e2 ⊢
        refine mk_ok.bind (Q := fun v : Int32 × mm_H => v.1 = Int32.ofNat (acc + (if mk_b A E r x (mk_kn A i) < mk_b A E r x (mk_kn A (r x)) then 0 else mk_d0 A (r x) N i)) ∧ mk_ch mk_DM v8 v.2) ?_ (fun v q => ?_)
        · by_cases z : mk_d0 A (r x) N i = 0
          · rw [if_pos ((mn_lel (b := 0) (show mk_d0 A (r x) N i < 2147483648 by omega) (by decide)).mpr (show mk_d0 A (r x) N i ≤ 0 by omega)), z]
            refine mk_ok.ret ⟨?_, q1⟩
            rw [e2]
            congr 1
            split <;> rfl
          · rw [if_neg (fun y => absurd ((mn_lel (b := 0) (show mk_d0 A (r x) N i < 2147483648 by omega) (by decide)).mp y) (show ¬ mk_d0 A (r x) N i ≤ 0 by omega))]
            refine mk_ok.bind (mi_baseOf hT M'.1 M'.2.1 hx (show i < 2147483648 by omega)) (fun v24 ⟨g1, g2⟩ => ?_)
            have kk : mk_ch mk_DM v8 v24.2 := q1.tr g2 (fun _ z => z) (fun _ z => z)
            rw [g1]
            by_cases c : mk_b A E r x (mk_kn A i) < mk_b A E r x (mk_kn A (r x))
            · rw [if_pos ((mn_lt (by omega) (by omega)).mpr c), if_pos c, Nat.add_zero]
              exact mk_ok.ret ⟨e2, kk⟩
            · rw [if_neg (fun z => c ((mn_lt (by omega) (by omega)).mp z)), if_neg c, mk_bs (mn_ix hi (by omega)), e310 _ kk, e2, mn_add]
              exact mk_ok.let (mk_ok.ret ⟨rfl, kk⟩)
        · refine mk_ok.let ?_
          rw [mn_addl 1]
          exact mk_ok.inl ⟨rfl, q.1, q.2⟩
      · rw [e1, if_pos (by decide)]
        exact mk_ok.inr ⟨by rw [← mk_hold_64 hP]; exact e2, q1⟩
      obtain ⟨d1, d2⟩ := M8.DM b2
      exact mk_ok.ret ⟨b1, d1, ((mk_fX.s2 p0).tr (mk_fX.s2 p1)).tr d2⟩
  · refine ⟨-1, r, u, t, hw, fun h hX => ?_, fun h hM => ?_⟩
    · unfold f_X_holds
      refine mk_ok.bs (v := (0, h)) ?_ ?_
      · unfold f_X_passNights
        rw [mk_bs (mx_gT hX.1.1 hX.2.1.1), mx_hasSecret hT hX.2.1]
        by_cases q : mk_is (A 263 1) x1
        · rw [if_pos q]
          rw [mk_bs (show (some (1 : Int32) : Option Int32) = some 1 from rfl), if_neg (show ¬ (1 : Int32) = 0 by decide)]
          by_cases h0 : x2 < 0
          · rw [if_pos h0]
          · rw [if_neg h0, if_neg (fun z => hs ⟨q, Int32.not_lt.mp h0, z⟩)]
        · rw [if_neg q]; rfl
      · dsimp only
        rw [if_pos rfl]
        exact mk_ok.ret ⟨rfl, hX, mk_fM.rf⟩
    · unfold f_M_holds
      refine mk_ok.let ?_
      have p0 : mk_s2m h (mm_pI h 261 0 0) := mk_s2m.pI ⟨by decide, by decide⟩
      have hM1 := hM.s2 p0
      revert p0 hM1
      generalize mm_pI h 261 0 0 = h1
      intro p0 hM1
      rw [mi_isSecret hT hM1.1]
      by_cases q : mk_is (A 263 1) x1
      · rw [if_pos q]
        refine mk_ok.bs rfl ?_
        rw [if_neg (show ¬ (1 : Int32) = 0 by decide)]
        refine mk_ok.bs (mp_within _ _ _) ?_
        rw [if_neg (fun z => hs ⟨q, z⟩), if_pos rfl]
        exact mk_ok.ret ⟨rfl, hM1, mk_fX.s2 p0⟩
      · rw [if_neg q]
        refine mk_ok.bs rfl ?_
        rw [if_pos rfl]
        exact mk_ok.ret ⟨rfl, hM1, mk_fX.s2 p0⟩
