/-! tell, pay, rise, quarter, undo: both sides -/
theorem mx_mayTell1 {A : mk_A} {E : mk_E} {t a : Nat} {r : Nat → Nat} {h : mm_H} (hT : mk_T A) (hX : mk_XT A E t h) (hW : mk_W A r) (hS : mk_XS A a r h) {p q k : Nat} (h2 : mk_two A (Int32.ofNat p) (Int32.ofNat q)) (hp : p < A 263 0) (hq : q < A 263 0) (hk : k < A 263 1) : f_St_mayTell a t (Int32.ofNat p) (Int32.ofNat q) (Int32.ofNat k) h = some (Int32.ofNat (mk_ct A r p q k).toNat) := by
  have hP := hT.1.1
  have hS1 := hT.1.2.1
  have e1 := hS.2.1 k hk
  have e2 := mk_p2 hP (hW.1 k hk)
  have hs : mk_is (A 263 1) (Int32.ofNat k) := ⟨k, hk, rfl⟩
  unfold f_St_mayTell mk_ct
  rw [if_pos ⟨hS.1, (mk_tt hX.1).1⟩, mx_hasPair hT hX, if_pos h2]
  simp only [Option.bind_some]
  rw [if_neg (by decide), mx_hasSecret hT hX, if_pos hs]
  simp only [Option.bind_some]
  rw [if_neg (by decide), mx_speaks hT hX hp]
  simp (disch := omega) only [mn_ix, Option.bind_some, e1, mn_xbit, mn_b1, mn_b0]
  cases (r k).testBit p <;> cases mk_sp A p <;> cases (r k).testBit q <;> rfl
theorem mx_mayTell0 {A : mk_A} {E : mk_E} {t a : Nat} {r : Nat → Nat} {h : mm_H} (hT : mk_T A) (hX : mk_XT A E t h) (hS : mk_XS A a r h) {x1 x2 x3 : Int32} (hn : ¬ (mk_two A x1 x2 ∧ mk_is (A 263 1) x3)) : f_St_mayTell a t x1 x2 x3 h = some 0 := by
  unfold f_St_mayTell
  rw [if_pos ⟨hS.1, (mk_tt hX.1).1⟩, mx_hasPair hT hX]
  by_cases h2 : mk_two A x1 x2
  · rw [if_pos h2]
    simp only [Option.bind_some]
    rw [if_neg (by decide), mx_hasSecret hT hX, if_neg (fun z => hn ⟨h2, z⟩)]
    rfl
  · rw [if_neg h2]
    rfl
theorem mk_w_congr {A : mk_A} {E : mk_E} {r r' : Nat → Nat} (hT : mk_T A) (e : ∀ j, j ≤ 76 ∨ j = 85 → r' j = r j) : ∀ k, k < A 263 1 → mk_w A E r' k = mk_w A E r k := by
  have hP := hT.1.1
  have hS1 := hT.1.2.1
  intro k
  induction k using Nat.strongRecOn with
  | _ k ih =>
    intro hk
    obtain ⟨t1, t2, t3, t4, t5, t6, t7⟩ := hT.2.2.1 k hk
    rw [mk_w_eq t5, mk_w_eq t5, e 76 (Or.inl (by omega)), e k (Or.inl (by omega))]
    have eb : ∀ n, mk_b A E r' k n = mk_b A E r k n := fun n => by
      unfold mk_b
      rw [e 85 (Or.inr rfl), e (70 + A 270 k) (Or.inl (by omega))]
    rw [eb]
    by_cases ho : A 272 k = 0
    · rw [if_pos ho, if_pos ho]
    · rw [if_neg ho, if_neg ho, ih (A 272 k - 1) (by omega) (by omega)]
theorem mk_ws_congr {A : mk_A} {E : mk_E} {r r' : Nat → Nat} (hT : mk_T A) (e : ∀ j, j ≤ 76 ∨ j = 85 → r' j = r j) (s : Nat) : mk_ws A E r' s = mk_ws A E r s := mk_sum_congr (fun i hi => by rw [mk_w_congr hT e i hi])
theorem mc_tell (x1 x2 x3 : Int32) : mk_call (f_X_tell x1 x2 x3) (f_M_tell x1 x2 x3) := by
  refine mk_callof (fun A E t r u hw => ?_)
  have hT := hw.1
  have hW := hw.2.1
  have hP := hT.1.1
  have hS1 := hT.1.2.1
  by_cases hv : mk_two A x1 x2 ∧ mk_is (A 263 1) x3
  · obtain ⟨h2, hs⟩ := hv
    obtain ⟨⟨p, hp, rfl⟩, ⟨q, hq, rfl⟩, hne⟩ := id h2
    obtain ⟨k, hk, rfl⟩ := id hs
    have hpq : ¬ p = q := fun e => hne (by rw [e])
    by_cases hc : mk_ct A r p q k = true
    · have hW' := mk_tell_W hT hW hp hq hk
      have hwr := mk_rem_wf hw
      refine ⟨Int32.ofNat (mk_w A E (mk_tell A r p q k) k), mk_tell A r p q k, mk_rem u r, t, hwr.row hW', fun h hX => ?_, fun h hM => ?_⟩
      · unfold f_X_tell
        refine mk_ok.bs (mx_gT hX.1.1 hX.2.1.1) ?_
        refine mk_ok.bs (mx_mayTell1 hT hX.2.1 hW hX.2.2.1.1 h2 hp hq hk) ?_
        rw [hc, if_neg (by decide)]
        refine mk_ok.bind (mx_remember hw hX) (fun v6 ⟨a1, a2⟩ => ?_)
        refine mk_ok.bs (mx_gT a1.1.1 a1.2.1.1) ?_
        refine mk_ok.bind (mx_whisper hT hW a1.2.1 (Or.inl rfl) a1.2.2.1.1 a1.2.2.1.2.1 hp hq hpq hk) (fun v10 ⟨b1, b2, b3⟩ => ?_)
        have b4 : mk_XN A 35 (mk_tell A r p q k) v10 := by
          have := a1.2.2.1.2.2.ch b1 (by omega)
          intro i hi
          rw [this i hi, mk_net_congr (by omega) (fun j h1 h2 => ?_)]
          unfold mk_tell
          rw [if_neg (by omega), if_neg (by omega), if_neg (by omega), if_neg (by omega)]
        have X10 : mk_X A E t (mk_tell A r p q k) (mk_rem u r) v10 := a1.row hwr (b1.mono (fun c z => by omega)) ⟨b2, b3, b4⟩
        refine mk_ok.bind (mx_weighed hT hW' X10.1.1 X10.2.1 (Or.inl rfl) X10.2.2.1.1) (fun v12 ⟨c1, c2⟩ => ?_)
        refine mk_ok.bs (mn_ix (by omega) (by omega)) ?_
        exact mk_ok.ret ⟨c2 k hk, X10.DX (hwr.row hW') c1, ((mk_fM.of a2 (fun c z => by omega)).tr (mk_fM.of b1 (fun c z => by omega))).tr (mk_DXs c1 X10.2.1.1)⟩
      · unfold f_M_tell
        refine mk_ok.let ?_
        have p0 : mk_s2m h (mm_pI h 261 0 0) := mk_s2m.pI ⟨by decide, by decide⟩
        have hM1 := hM.s2 p0
        revert p0 hM1
        generalize mm_pI h 261 0 0 = h1
        intro p0 hM1
        rw [mi_areTwo hT hM1.1, if_pos h2]
        refine mk_ok.bs rfl ?_
        rw [if_neg (by decide), mi_isSecret hT hM1.1, if_pos hs]
        refine mk_ok.bs rfl ?_
        rw [if_neg (by decide), mi_canTell hT hM1.1 hW hM1.2.1 hp hq hk, hc]
        refine mk_ok.bs rfl ?_
        rw [if_neg (by decide)]
        refine mk_ok.bind (mi_keeps hw hM1) (fun v10 ⟨a1, a2⟩ => ?_)
        refine mk_ok.bind (mi_tells hT a1.1 a1.2.1 hp hq hpq hk) (fun v12 ⟨b1, b2⟩ => ?_)
        have M12 := a1.row b1 b2
        refine mk_ok.bind (mi_worthOf hT hW' M12.1 M12.2.1 hk) (fun v14 ⟨c1, c2⟩ => ?_)
        obtain ⟨d1, d2⟩ := M12.DM c2
        exact mk_ok.ret ⟨c1, d1, (((mk_fX.s2 p0).tr a2).tr (mk_fX.of b1 (fun c z => by omega))).tr d2⟩
    · have hc' : mk_ct A r p q k = false := by simpa using hc
      refine ⟨-1, r, u, t, hw, fun h hX => ?_, fun h hM => ?_⟩
      · unfold f_X_tell
        refine mk_ok.bs (mx_gT hX.1.1 hX.2.1.1) ?_
        refine mk_ok.bs (mx_mayTell1 hT hX.2.1 hW hX.2.2.1.1 h2 hp hq hk) ?_
        rw [hc', if_pos (by decide)]
        exact mk_ok.ret ⟨rfl, hX, mk_fM.rf⟩
      · unfold f_M_tell
        refine mk_ok.let ?_
        have p0 : mk_s2m h (mm_pI h 261 0 0) := mk_s2m.pI ⟨by decide, by decide⟩
        have hM1 := hM.s2 p0
        revert p0 hM1
        generalize mm_pI h 261 0 0 = h1
        intro p0 hM1
        rw [mi_areTwo hT hM1.1, if_pos h2]
        refine mk_ok.bs rfl ?_
        rw [if_neg (by decide), mi_isSecret hT hM1.1, if_pos hs]
        refine mk_ok.bs rfl ?_
        rw [if_neg (by decide), mi_canTell hT hM1.1 hW hM1.2.1 hp hq hk, hc']
        refine mk_ok.bs rfl ?_
        rw [if_pos (by decide)]
        exact mk_ok.ret ⟨rfl, hM1, mk_fX.s2 p0⟩
  · refine ⟨-1, r, u, t, hw, fun h hX => ?_, fun h hM => ?_⟩
    · unfold f_X_tell
      refine mk_ok.bs (mx_gT hX.1.1 hX.2.1.1) ?_
      refine mk_ok.bs (mx_mayTell0 hT hX.2.1 hX.2.2.1.1 hv) ?_
      rw [if_pos rfl]
      exact mk_ok.ret ⟨rfl, hX, mk_fM.rf⟩
    · unfold f_M_tell
      refine mk_ok.let ?_
      have p0 : mk_s2m h (mm_pI h 261 0 0) := mk_s2m.pI ⟨by decide, by decide⟩
      have hM1 := hM.s2 p0
      revert p0 hM1
      generalize mm_pI h 261 0 0 = h1
      intro p0 hM1
      rw [mi_areTwo hT hM1.1]
      by_cases h2 : mk_two A x1 x2
      · rw [if_pos h2]
        refine mk_ok.bs rfl ?_
        rw [if_neg (by decide), mi_isSecret hT hM1.1, if_neg (fun z => hv ⟨h2, z⟩)]
        refine mk_ok.bs rfl ?_
        rw [if_pos rfl]
        exact mk_ok.ret ⟨rfl, hM1, mk_fX.s2 p0⟩
      · rw [if_neg h2]
        refine mk_ok.bs rfl ?_
        rw [if_pos rfl]
        exact mk_ok.ret ⟨rfl, hM1, mk_fX.s2 p0⟩
theorem mc_pay (x1 x2 : Int32) : mk_call (f_X_pay x1 x2) (f_M_pay x1 x2) := by
  refine mk_callof (fun A E t r u hw => ?_)
  have hT := hw.1
  have hW := hw.2.1
  have hP := hT.1.1
  have hS1 := hT.1.2.1
  by_cases hs : mk_is (A 263 0) x1
  · obtain ⟨p, hp, rfl⟩ := id hs
    -- the question may be answered by a Bool
    have ans : ∃ b : Bool, (∀ v, mk_X A E t r u v → (∀ k, k < A 263 1 → v.1 76 k = Int32.ofNat (mk_w A E r k)) → f_St_mayPay 35 t (Int32.ofNat p) x2 76 v = some (Int32.ofNat b.toNat)) ∧ (∀ v, mk_M A E r u v → mk_ok (f_M_canPay (Int32.ofNat p) x2 v) (fun w => w.1 = Int32.ofNat b.toNat ∧ mk_ch mk_DM v w.2)) ∧ (b = true → ∃ s, x2 = Int32.ofNat s ∧ s < 2 ^ A 263 1) := by
      by_cases h0 : x2 ≤ 0
      · refine ⟨false, fun v hv _ => mx_mayPay0 hv.2.1 hv.2.2.1.1 _ _ h0, fun v hv => ?_, fun z => absurd z (by decide)⟩
        rw [mi_canPay0 _ _ h0]
        exact mk_ok.ret ⟨rfl, mk_ch.rf⟩
      · have h1 : 0 ≤ x2 := Int32.le_of_lt (Int32.not_le.mp h0)
        obtain ⟨s, hs2, rfl⟩ := mn_of h1
        refine ⟨mk_cp A E r p s, fun v hv hvw => mx_mayPay hT hv.2.1 hW hv.2.2.1.1 hvw hp hs2, fun v hv => mi_canPay hT hW hv.1 hv.2.1 hp hs2, fun z => ⟨s, rfl, ?_⟩⟩
        unfold mk_cp at z
        simp only [Bool.and_eq_true, decide_eq_true_eq] at z
        exact mk_sub_lt z.2.2.1 (mk_dif_le (mk_kb_lt A r p))
    obtain ⟨b, ax, am, ab⟩ := ans
    cases b
    · refine ⟨-1, r, u, t, hw, fun h hX => ?_, fun h hM => ?_⟩
      · unfold f_X_pay
        refine mk_ok.bs (mx_gT hX.1.1 hX.2.1.1) ?_
        rw [mx_hasPerson hT hX.2.1, if_pos hs]
        refine mk_ok.bs rfl ?_
        rw [if_neg (by decide)]
        refine mk_ok.bs (mx_gT hX.1.1 hX.2.1.1) ?_
        refine mk_ok.bind (mx_weighed hT hW hX.1.1 hX.2.1 (Or.inl rfl) hX.2.2.1.1) (fun v8 ⟨c1, c2⟩ => ?_)
        have X8 := hX.DX hw c1
        refine mk_ok.bs (ax v8 X8 c2) ?_
        rw [if_pos (by decide)]
        exact mk_ok.ret ⟨rfl, X8, mk_DXs c1 hX.2.1.1⟩
      · unfold f_M_pay
        refine mk_ok.let ?_
        have p0 : mk_s2m h (mm_pI h 261 0 0) := mk_s2m.pI ⟨by decide, by decide⟩
        have hM1 := hM.s2 p0
        revert p0 hM1
        generalize mm_pI h 261 0 0 = h1
        intro p0 hM1
        rw [mi_isPerson hT hM1.1, if_pos hs]
        refine mk_ok.bs rfl ?_
        rw [if_neg (by decide)]
        refine mk_ok.bind (am h1 hM1) (fun v6 ⟨c1, c2⟩ => ?_)
        obtain ⟨d1, d2⟩ := hM1.DM c2
        rw [c1, if_pos (by decide)]
        exact mk_ok.ret ⟨rfl, d1, (mk_fX.s2 p0).tr d2⟩
    · obtain ⟨s, rfl, hs2⟩ := ab rfl
      have hwr := mk_rem_wf hw
      have hW' := mk_pay_W (E := E) hT hW hp hs2
      have sb := mk_s2 hS1 hs2
      refine ⟨Int32.ofNat (mk_ws A E r s), mk_pay r p s, mk_rem u r, t, hwr.row hW', fun h hX => ?_, fun h hM => ?_⟩
      · unfold f_X_pay
        refine mk_ok.bs (mx_gT hX.1.1 hX.2.1.1) ?_
        rw [mx_hasPerson hT hX.2.1, if_pos hs]
        refine mk_ok.bs rfl ?_
        rw [if_neg (by decide)]
        refine mk_ok.bs (mx_gT hX.1.1 hX.2.1.1) ?_
        refine mk_ok.bind (mx_weighed hT hW hX.1.1 hX.2.1 (Or.inl rfl) hX.2.2.1.1) (fun v8 ⟨c1, c2⟩ => ?_)
        have X8 := hX.DX hw c1
        refine mk_ok.bs (ax v8 X8 c2) ?_
        rw [if_neg (by decide)]
        refine mk_ok.bind (mx_remember hw X8) (fun v12 ⟨a1, a2⟩ => ?_)
        refine mk_ok.bind (mx_take hT a1.2.2.1.1 hp) (fun v14 ⟨b1, b2, b3, b4⟩ => ?_)
        have w14 : ∀ k, k < A 263 1 → v14.1 76 k = Int32.ofNat (mk_w A E r k) := fun k hk => by
          rw [b4 _ _ (by omega), a2.e1 (by omega)]
          exact c2 k hk
        have XR14 : mk_XR A 35 (mk_pay r p s) v14 := by
          refine ⟨b2, fun p' q' k' h1 h2 h3 => ?_, fun p' h1 => ?_⟩
          · rw [b3, a1.2.2.1.2.1 p' q' k' h1 h2 h3]
            unfold mk_pay
            rw [if_neg (by omega), if_neg (by omega)]
          · rw [b4 _ _ (by omega), a1.2.2.1.2.2 p' h1, mk_net_congr (by omega) (fun j h1 h2 => ?_)]
            unfold mk_pay
            rw [if_neg (by omega), if_neg (by omega)]
        refine mk_ok.bs (mx_together hT w14 hs2) ?_
        exact mk_ok.ret ⟨rfl, a1.row hwr (b1.mono (fun c z => by omega)) XR14, ((mk_DXs c1 hX.2.1.1).tr (mk_fM.of a2 (fun c z => by omega))).tr (mk_fM.of b1 (fun c z => by omega))⟩
      · unfold f_M_pay
        refine mk_ok.let ?_
        have p0 : mk_s2m h (mm_pI h 261 0 0) := mk_s2m.pI ⟨by decide, by decide⟩
        have hM1 := hM.s2 p0
        revert p0 hM1
        generalize mm_pI h 261 0 0 = h1
        intro p0 hM1
        rw [mi_isPerson hT hM1.1, if_pos hs]
        refine mk_ok.bs rfl ?_
        rw [if_neg (by decide)]
        refine mk_ok.bind (am h1 hM1) (fun v6 ⟨c1, c2⟩ => ?_)
        obtain ⟨d1, d2⟩ := hM1.DM c2
        rw [c1, if_neg (by decide)]
        refine mk_ok.bind (mi_keeps hw d1) (fun v8 ⟨a1, a2⟩ => ?_)
        refine mk_ok.bind (mi_pays a1.2.1 (p := p) (s := s) (by omega)) (fun v10 ⟨b1, b2⟩ => ?_)
        have M10 := a1.row b1 b2
        refine mk_ok.bind (mi_worthsOf hT hW' M10.1 M10.2.1 (by omega)) (fun v12 ⟨e1, e2⟩ => ?_)
        obtain ⟨f1, f2⟩ := M10.DM e2
        refine mk_ok.ret ⟨?_, f1, ((((mk_fX.s2 p0).tr d2).tr a2).tr (mk_fX.of b1 (fun c z => by omega))).tr f2⟩
        show v12.1 = _
        rw [e1, mk_ws_congr hT (fun j hj => ?_)]
        unfold mk_pay
        rw [if_neg (by omega), if_neg (by omega)]
  · refine ⟨-1, r, u, t, hw, fun h hX => ?_, fun h hM => ?_⟩
    · unfold f_X_pay
      refine mk_ok.bs (mx_gT hX.1.1 hX.2.1.1) ?_
      rw [mx_hasPerson hT hX.2.1, if_neg hs]
      refine mk_ok.bs rfl ?_
      rw [if_pos rfl]
      exact mk_ok.ret ⟨rfl, hX, mk_fM.rf⟩
    · unfold f_M_pay
      refine mk_ok.let ?_
      have p0 : mk_s2m h (mm_pI h 261 0 0) := mk_s2m.pI ⟨by decide, by decide⟩
      have hM1 := hM.s2 p0
      revert p0 hM1
      generalize mm_pI h 261 0 0 = h1
      intro p0 hM1
      rw [mi_isPerson hT hM1.1, if_neg hs]
      refine mk_ok.bs rfl ?_
      rw [if_pos rfl]
      exact mk_ok.ret ⟨rfl, hM1, mk_fX.s2 p0⟩
theorem mc_quarter : mk_call f_X_quarter f_M_quarter := by
  refine mk_callof (fun A E t r u hw => ?_)
  have hT := hw.1
  have hW := hw.2.1
  have hP := hT.1.1
  have hS1 := hT.1.2.1
  have hwr := mk_rem_wf hw
  have hW' := mk_pass_W hT hW
  refine ⟨Int32.ofNat (mk_owes A r), mk_pass A r, mk_rem u r, t, hwr.row hW', fun h hX => ?_, fun h hM => ?_⟩
  · unfold f_X_quarter
    refine mk_ok.bind (mx_remember hw hX) (fun v2 ⟨a1, a2⟩ => ?_)
    refine mk_ok.bs (mx_gT a1.1.1 a1.2.1.1) ?_
    refine mk_ok.bind (mx_endQuarter hT hW a1.2.1 (Or.inl rfl) a1.2.2.1.1) (fun v6 ⟨b0, b1, b2, b3⟩ => ?_)
    have n : ∀ j, j < 77 ∨ 85 < j → mk_pass A r j = r j := fun j h1 => by unfold mk_pass; rw [if_neg (by omega), if_neg (by omega), if_neg (by omega)]
    have XR6 : mk_XR A 35 (mk_pass A r) v6.2 := by
      refine ⟨b2, fun p' q' k' h1 h2 h3 => ?_, fun p' h1 => ?_⟩
      · rw [b3, a1.2.2.1.2.1 p' q' k' h1 h2 h3, n _ (by omega)]
      · rw [b1.e1 (by omega), a1.2.2.1.2.2 p' h1, mk_net_congr (by omega) (fun j h1 h2 => n j (by omega))]
    exact mk_ok.ret ⟨b0, a1.row hwr (b1.mono (fun c z => by omega)) XR6, (mk_fM.of a2 (fun c z => by omega)).tr (mk_fM.of b1 (fun c z => by omega))⟩
  · unfold f_M_quarter
    refine mk_ok.let ?_
    have p0 : mk_s2m h (mm_pI h 261 0 0) := mk_s2m.pI ⟨by decide, by decide⟩
    have hM1 := hM.s2 p0
    revert p0 hM1
    generalize mm_pI h 261 0 0 = h1
    intro p0 hM1
    refine mk_ok.bind (mi_keeps hw hM1) (fun v4 ⟨a1, a2⟩ => ?_)
    refine mk_ok.bind (mi_passes hT hW a1.1 a1.2.1) (fun v6 ⟨b0, b1, b2⟩ => ?_)
    exact mk_ok.ret ⟨b0, a1.row b1 b2, ((mk_fX.s2 p0).tr a2).tr (mk_fX.of b1 (fun c z => by omega))⟩
