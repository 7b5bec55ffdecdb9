/-! THE QUESTIONS secret AND count (program gen_reads.py), aware, ear -/
theorem mk_fM.rf {h : mm_H} : mk_fM h h := fun _ _ => ⟨rfl, rfl⟩
theorem mk_fX.rf {h : mm_H} : mk_fX h h := ⟨fun _ _ => ⟨rfl, rfl⟩, rfl⟩
theorem mk_DXs {t : Nat} {h h' : mm_H} (k : mk_ch (mk_DX t) h h') (ht : t = 79 ∨ t = 96) : mk_fM h h' := mk_fM.of k (fun c z => by unfold mk_DX at z; omega)
theorem mk_X.DX {A : mk_A} {E : mk_E} {t : Nat} {r : Nat → Nat} {u : mk_U} {h h' : mm_H} (hw : mk_wf A r u) (q : mk_X A E t r u h) (k : mk_ch (mk_DX t) h h') : mk_X A E t r u h' := q.ch hw k (fun c z => by
  unfold mk_DX at z
  unfold mk_sx
  omega)
theorem mk_M.DM {A : mk_A} {E : mk_E} {r : Nat → Nat} {u : mk_U} {h h' : mm_H} (q : mk_M A E r u h) (k : mk_ch mk_DM h h') : mk_M A E r u h' ∧ mk_fX h h' := by
  have s := mk_s2m.of k (fun c z => by
    unfold mk_DM at z
    unfold mk_sm
    omega)
  exact ⟨q.s2 s, mk_fX.s2 s⟩
theorem mk_upto {x : Int32} {n : Nat} (hn : n < 2147483648) (h : 0 ≤ x ∧ x ≤ Int32.ofNat n) : ∃ j, j ≤ n ∧ x = Int32.ofNat j := by
  obtain ⟨j, hj, rfl⟩ := mn_of h.1
  exact ⟨j, (mn_le hj hn).mp h.2, rfl⟩
theorem mk_one {x : Nat} (h : x ≤ 1) : (decide (x = 1)).toNat = x := by
  have : x = 0 ∨ x = 1 := by omega
  rcases this with rfl | rfl <;> rfl
theorem mk_fab {A : mk_A} (hT : mk_T A) {k : Nat} (hk : k < A 263 1) : ((mk_fa A).testBit k).toNat = A 269 k := by
  unfold mk_fa
  rw [mk_set_bit]
  simp only [hk, decide_true, Bool.true_and]
  exact mk_one (hT.2.2.1 k hk).1
theorem mk_fa_lt {A : mk_A} (hT : mk_T A) : mk_fa A < 1024 := mk_s2 hT.1.2.1 (mk_set_lt _ _)
theorem mc_secret (x1 x2 : Int32) : mk_call (f_X_secret x1 x2) (f_M_secret x1 x2) := by
  refine mk_callof (fun A E t r u hw => ?_)
  have hT := hw.1
  have hW := hw.2.1
  have hP := hT.1.1
  have hS1 := hT.1.2.1
  by_cases hs : mk_is (A 263 1) x1
  · obtain ⟨k, hk, rfl⟩ := hs
    have hk' : mk_is (A 263 1) (Int32.ofNat k) := ⟨k, hk, rfl⟩
    have b1 := mk_p2 hP (hW.1 k hk)
    have b2 := mk_s2 hS1 hW.2.2.1
    have b3 := mk_s2 hS1 hW.2.2.2.1
    have b4 := mk_fa_lt hT
    by_cases hr : 0 ≤ x2 ∧ x2 ≤ 9
    · obtain ⟨j, hj, rfl⟩ := mk_upto (n := 9) (by omega) hr
      have hj : j = 0 ∨ j = 1 ∨ j = 2 ∨ j = 3 ∨ j = 4 ∨ j = 5 ∨ j = 6 ∨ j = 7 ∨ j = 8 ∨ j = 9 := by omega
      rcases hj with rfl | rfl | rfl | rfl | rfl | rfl | rfl | rfl | rfl | rfl
      · refine ⟨Int32.ofNat (A 269 k), r, u, t, hw, fun h hX => ?_, fun h hM => ?_⟩
        · unfold f_X_secret
          refine mk_ok.bs (mx_gT hX.1.1 hX.2.1.1) (mk_ok.bs (mx_hasSecret hT hX.2.1 _) ?_)
          rw [if_pos hk', if_neg (by decide)]
          rw [if_pos (by decide)]
          refine mk_ok.bs (mx_gT hX.1.1 hX.2.1.1) ?_
          refine mk_ok.bs (by rw [hX.2.1.2.1.2.2.2.2.2]; exact mn_xbit (by omega) (by omega)) ?_
          exact mk_ok.ret ⟨congrArg Int32.ofNat (mk_fab hT hk), hX, mk_fM.rf⟩
        · unfold f_M_secret
          refine mk_ok.let ?_
          have p0 : mk_s2m h (mm_pI h 261 0 0) := mk_s2m.pI ⟨by decide, by decide⟩
          have hM1 := hM.s2 p0
          revert p0 hM1
          generalize mm_pI h 261 0 0 = h1
          intro p0 hM1
          refine mk_ok.bs (mi_isSecret hT hM1.1 _) ?_
          rw [if_pos hk', if_neg (by decide)]
          refine mk_ok.bs (mp_within _ _ _) ?_
          rw [if_pos hr, if_neg (by decide)]
          rw [if_neg (by decide), if_pos (by decide)]
          refine mk_ok.bs (mn_ix (by omega) (by omega)) ?_
          exact mk_ok.ret ⟨(hM1.1.2.2.1 k (by omega)).1, hM1, mk_fX.s2 p0⟩
      · refine ⟨Int32.ofNat (A 270 k), r, u, t, hw, fun h hX => ?_, fun h hM => ?_⟩
        · unfold f_X_secret
          refine mk_ok.bs (mx_gT hX.1.1 hX.2.1.1) (mk_ok.bs (mx_hasSecret hT hX.2.1 _) ?_)
          rw [if_pos hk', if_neg (by decide)]
          rw [if_neg (by decide), if_pos (by decide)]
          refine mk_ok.bs (mx_gT hX.1.1 hX.2.1.1) ?_
          refine mk_ok.bs (mn_ix (by omega) (by omega)) ?_
          exact mk_ok.ret ⟨(hX.2.1.2.2.2.1 k hk).1, hX, mk_fM.rf⟩
        · unfold f_M_secret
          refine mk_ok.let ?_
          have p0 : mk_s2m h (mm_pI h 261 0 0) := mk_s2m.pI ⟨by decide, by decide⟩
          have hM1 := hM.s2 p0
          revert p0 hM1
          generalize mm_pI h 261 0 0 = h1
          intro p0 hM1
          refine mk_ok.bs (mi_isSecret hT hM1.1 _) ?_
          rw [if_pos hk', if_neg (by decide)]
          refine mk_ok.bs (mp_within _ _ _) ?_
          rw [if_pos hr, if_neg (by decide)]
          rw [if_neg (by decide), if_neg (by decide), if_pos (by decide)]
          refine mk_ok.bs (mn_ix (by omega) (by omega)) ?_
          exact mk_ok.ret ⟨(hM1.1.2.2.1 k (by omega)).2.1, hM1, mk_fX.s2 p0⟩
      · refine ⟨Int32.ofNat (A 271 k), r, u, t, hw, fun h hX => ?_, fun h hM => ?_⟩
        · unfold f_X_secret
          refine mk_ok.bs (mx_gT hX.1.1 hX.2.1.1) (mk_ok.bs (mx_hasSecret hT hX.2.1 _) ?_)
          rw [if_pos hk', if_neg (by decide)]
          rw [if_neg (by decide), if_neg (by decide), if_pos (by decide)]
          refine mk_ok.bs (mx_gT hX.1.1 hX.2.1.1) ?_
          refine mk_ok.bs (mn_ix (by omega) (by omega)) ?_
          exact mk_ok.ret ⟨(hX.2.1.2.2.2.1 k hk).2.1, hX, mk_fM.rf⟩
        · unfold f_M_secret
          refine mk_ok.let ?_
          have p0 : mk_s2m h (mm_pI h 261 0 0) := mk_s2m.pI ⟨by decide, by decide⟩
          have hM1 := hM.s2 p0
          revert p0 hM1
          generalize mm_pI h 261 0 0 = h1
          intro p0 hM1
          refine mk_ok.bs (mi_isSecret hT hM1.1 _) ?_
          rw [if_pos hk', if_neg (by decide)]
          refine mk_ok.bs (mp_within _ _ _) ?_
          rw [if_pos hr, if_neg (by decide)]
          rw [if_neg (by decide), if_neg (by decide), if_neg (by decide), if_pos (by decide)]
          refine mk_ok.bs (mn_ix (by omega) (by omega)) ?_
          exact mk_ok.ret ⟨(hM1.1.2.2.1 k (by omega)).2.2.1, hM1, mk_fX.s2 p0⟩
      · refine ⟨Int32.ofNat (A 272 k) - 1, r, u, t, hw, fun h hX => ?_, fun h hM => ?_⟩
        · unfold f_X_secret
          refine mk_ok.bs (mx_gT hX.1.1 hX.2.1.1) (mk_ok.bs (mx_hasSecret hT hX.2.1 _) ?_)
          rw [if_pos hk', if_neg (by decide)]
          rw [if_neg (by decide), if_neg (by decide), if_neg (by decide), if_pos (by decide)]
          refine mk_ok.bs (mx_gT hX.1.1 hX.2.1.1) ?_
          refine mk_ok.bs (mn_ix (by omega) (by omega)) ?_
          exact mk_ok.ret ⟨(hX.2.1.2.2.2.1 k hk).2.2.1, hX, mk_fM.rf⟩
        · unfold f_M_secret
          refine mk_ok.let ?_
          have p0 : mk_s2m h (mm_pI h 261 0 0) := mk_s2m.pI ⟨by decide, by decide⟩
          have hM1 := hM.s2 p0
          revert p0 hM1
          generalize mm_pI h 261 0 0 = h1
          intro p0 hM1
          refine mk_ok.bs (mi_isSecret hT hM1.1 _) ?_
          rw [if_pos hk', if_neg (by decide)]
          refine mk_ok.bs (mp_within _ _ _) ?_
          rw [if_pos hr, if_neg (by decide)]
          rw [if_neg (by decide), if_neg (by decide), if_neg (by decide), if_neg (by decide)]
          refine mk_ok.bs (mn_ix (by omega) (by omega)) ?_
          exact mk_ok.ret ⟨(hM1.1.2.2.1 k (by omega)).2.2.2.1, hM1, mk_fX.s2 p0⟩
      · refine ⟨Int32.ofNat (r k), r, u, t, hw, fun h hX => ?_, fun h hM => ?_⟩
        · unfold f_X_secret
          refine mk_ok.bs (mx_gT hX.1.1 hX.2.1.1) (mk_ok.bs (mx_hasSecret hT hX.2.1 _) ?_)
          rw [if_pos hk', if_neg (by decide)]
          rw [if_neg (by decide), if_neg (by decide), if_neg (by decide), if_neg (by decide), if_pos (by decide)]
          refine mk_ok.bs (mn_ix (by omega) (by omega)) ?_
          exact mk_ok.ret ⟨hX.2.2.1.1.2.1 k hk, hX, mk_fM.rf⟩
        · unfold f_M_secret
          refine mk_ok.let ?_
          have p0 : mk_s2m h (mm_pI h 261 0 0) := mk_s2m.pI ⟨by decide, by decide⟩
          have hM1 := hM.s2 p0
          revert p0 hM1
          generalize mm_pI h 261 0 0 = h1
          intro p0 hM1
          refine mk_ok.bs (mi_isSecret hT hM1.1 _) ?_
          rw [if_pos hk', if_neg (by decide)]
          refine mk_ok.bs (mp_within _ _ _) ?_
          rw [if_pos hr, if_neg (by decide)]
          rw [if_pos (by decide), if_neg (by decide), if_pos (by decide)]
          refine mk_ok.bs (mn_ix (by omega) (by omega)) ?_
          exact mk_ok.ret ⟨hM1.2.1 k (by omega), hM1, mk_fX.s2 p0⟩
      · refine ⟨Int32.ofNat (mk_kn A (r k)), r, u, t, hw, fun h hX => ?_, fun h hM => ?_⟩
        · unfold f_X_secret
          refine mk_ok.bs (mx_gT hX.1.1 hX.2.1.1) (mk_ok.bs (mx_hasSecret hT hX.2.1 _) ?_)
          rw [if_pos hk', if_neg (by decide)]
          rw [if_neg (by decide), if_neg (by decide), if_neg (by decide), if_neg (by decide), if_neg (by decide), if_pos (by decide)]
          refine mk_ok.bs (mx_gT hX.1.1 hX.2.1.1) ?_
          refine mk_ok.bs (mn_ix (by omega) (by omega)) ?_
          refine mk_ok.bs (by rw [hX.2.2.1.1.2.1 k hk]; exact mx_knowers hT hX.2.1 (hW.1 k hk)) ?_
          exact mk_ok.ret ⟨rfl, hX, mk_fM.rf⟩
        · unfold f_M_secret
          refine mk_ok.let ?_
          have p0 : mk_s2m h (mm_pI h 261 0 0) := mk_s2m.pI ⟨by decide, by decide⟩
          have hM1 := hM.s2 p0
          revert p0 hM1
          generalize mm_pI h 261 0 0 = h1
          intro p0 hM1
          refine mk_ok.bs (mi_isSecret hT hM1.1 _) ?_
          rw [if_pos hk', if_neg (by decide)]
          refine mk_ok.bs (mp_within _ _ _) ?_
          rw [if_pos hr, if_neg (by decide)]
          rw [if_pos (by decide), if_neg (by decide), if_neg (by decide), if_pos (by decide)]
          refine mk_ok.bs (mn_ix (by omega) (by omega)) ?_
          refine mk_ok.bs (by rw [hM1.2.1 k (by omega)]; exact mi_knowersOf hT hM1.1 (by omega)) ?_
          exact mk_ok.ret ⟨rfl, hM1, mk_fX.s2 p0⟩
      · refine ⟨Int32.ofNat (mk_w A E r k), r, u, t, hw, fun h hX => ?_, fun h hM => ?_⟩
        · unfold f_X_secret
          refine mk_ok.bs (mx_gT hX.1.1 hX.2.1.1) (mk_ok.bs (mx_hasSecret hT hX.2.1 _) ?_)
          rw [if_pos hk', if_neg (by decide)]
          rw [if_neg (by decide), if_neg (by decide), if_neg (by decide), if_neg (by decide), if_neg (by decide), if_neg (by decide), if_pos (by decide)]
          refine mk_ok.bind (mx_weighed hT hW hX.1.1 hX.2.1 (Or.inl rfl) hX.2.2.1.1) (fun v ⟨v1, v2⟩ => ?_)
          refine mk_ok.bs (mn_ix (by omega) (by omega)) ?_
          exact mk_ok.ret ⟨v2 k hk, hX.DX hw v1, mk_DXs v1 hX.2.1.1⟩
        · unfold f_M_secret
          refine mk_ok.let ?_
          have p0 : mk_s2m h (mm_pI h 261 0 0) := mk_s2m.pI ⟨by decide, by decide⟩
          have hM1 := hM.s2 p0
          revert p0 hM1
          generalize mm_pI h 261 0 0 = h1
          intro p0 hM1
          refine mk_ok.bs (mi_isSecret hT hM1.1 _) ?_
          rw [if_pos hk', if_neg (by decide)]
          refine mk_ok.bs (mp_within _ _ _) ?_
          rw [if_pos hr, if_neg (by decide)]
          rw [if_pos (by decide), if_neg (by decide), if_neg (by decide), if_neg (by decide)]
          refine mk_ok.bind (mi_worthOf hT hW hM1.1 hM1.2.1 hk) (fun v ⟨v1, v2⟩ => ?_)
          obtain ⟨m1, m2⟩ := hM1.DM v2
          exact mk_ok.ret ⟨v1, m1, (mk_fX.s2 p0).tr m2⟩
      · refine ⟨Int32.ofNat ((r 76).testBit k).toNat, r, u, t, hw, fun h hX => ?_, fun h hM => ?_⟩
        · unfold f_X_secret
          refine mk_ok.bs (mx_gT hX.1.1 hX.2.1.1) (mk_ok.bs (mx_hasSecret hT hX.2.1 _) ?_)
          rw [if_pos hk', if_neg (by decide)]
          rw [if_neg (by decide), if_neg (by decide), if_neg (by decide), if_neg (by decide), if_neg (by decide), if_neg (by decide), if_neg (by decide), if_pos (by decide)]
          refine mk_ok.bs (by rw [hX.2.2.1.1.2.2.2.1]; exact mn_xbit (by omega) (by omega)) ?_
          exact mk_ok.ret ⟨rfl, hX, mk_fM.rf⟩
        · unfold f_M_secret
          refine mk_ok.let ?_
          have p0 : mk_s2m h (mm_pI h 261 0 0) := mk_s2m.pI ⟨by decide, by decide⟩
          have hM1 := hM.s2 p0
          revert p0 hM1
          generalize mm_pI h 261 0 0 = h1
          intro p0 hM1
          refine mk_ok.bs (mi_isSecret hT hM1.1 _) ?_
          rw [if_pos hk', if_neg (by decide)]
          refine mk_ok.bs (mp_within _ _ _) ?_
          rw [if_pos hr, if_neg (by decide)]
          rw [if_pos (by decide), if_pos (by decide), if_neg (by decide)]
          refine mk_ok.bs (if_pos (by decide)) ?_
          refine mk_ok.bs (mn_ix (k := 76) (by omega) (by omega)) ?_
          exact mk_ok.ret ⟨(by show (h1.1 301 76 >>> _) &&& 1 = _; rw [hM1.2.1 76 (by omega)]; exact mn_bit (by omega) (by omega)), hM1, mk_fX.s2 p0⟩
      · refine ⟨Int32.ofNat ((r 77).testBit k).toNat, r, u, t, hw, fun h hX => ?_, fun h hM => ?_⟩
        · unfold f_X_secret
          refine mk_ok.bs (mx_gT hX.1.1 hX.2.1.1) (mk_ok.bs (mx_hasSecret hT hX.2.1 _) ?_)
          rw [if_pos hk', if_neg (by decide)]
          rw [if_neg (by decide), if_neg (by decide), if_neg (by decide), if_neg (by decide), if_neg (by decide), if_neg (by decide), if_neg (by decide), if_neg (by decide), if_pos (by decide)]
          refine mk_ok.bs (by rw [hX.2.2.1.1.2.2.2.2.1]; exact mn_xbit (by omega) (by omega)) ?_
          exact mk_ok.ret ⟨rfl, hX, mk_fM.rf⟩
        · unfold f_M_secret
          refine mk_ok.let ?_
          have p0 : mk_s2m h (mm_pI h 261 0 0) := mk_s2m.pI ⟨by decide, by decide⟩
          have hM1 := hM.s2 p0
          revert p0 hM1
          generalize mm_pI h 261 0 0 = h1
          intro p0 hM1
          refine mk_ok.bs (mi_isSecret hT hM1.1 _) ?_
          rw [if_pos hk', if_neg (by decide)]
          refine mk_ok.bs (mp_within _ _ _) ?_
          rw [if_pos hr, if_neg (by decide)]
          rw [if_pos (by decide), if_pos (by decide), if_neg (by decide)]
          refine mk_ok.bs (if_neg (by decide)) ?_
          refine mk_ok.bs (mn_ix (k := 77) (by omega) (by omega)) ?_
          exact mk_ok.ret ⟨(by show (h1.1 301 77 >>> _) &&& 1 = _; rw [hM1.2.1 77 (by omega)]; exact mn_bit (by omega) (by omega)), hM1, mk_fX.s2 p0⟩
      · refine ⟨Int32.ofNat (A 274 k), r, u, t, hw, fun h hX => ?_, fun h hM => ?_⟩
        · unfold f_X_secret
          refine mk_ok.bs (mx_gT hX.1.1 hX.2.1.1) (mk_ok.bs (mx_hasSecret hT hX.2.1 _) ?_)
          rw [if_pos hk', if_neg (by decide)]
          rw [if_neg (by decide), if_neg (by decide), if_neg (by decide), if_neg (by decide), if_neg (by decide), if_neg (by decide), if_neg (by decide), if_neg (by decide), if_neg (by decide), if_pos (by decide)]
          refine mk_ok.bs (mx_gT hX.1.1 hX.2.1.1) ?_
          refine mk_ok.bs (mn_ix (by omega) (by omega)) ?_
          exact mk_ok.ret ⟨(hX.2.1.2.2.2.1 k hk).2.2.2.2, hX, mk_fM.rf⟩
        · unfold f_M_secret
          refine mk_ok.let ?_
          have p0 : mk_s2m h (mm_pI h 261 0 0) := mk_s2m.pI ⟨by decide, by decide⟩
          have hM1 := hM.s2 p0
          revert p0 hM1
          generalize mm_pI h 261 0 0 = h1
          intro p0 hM1
          refine mk_ok.bs (mi_isSecret hT hM1.1 _) ?_
          rw [if_pos hk', if_neg (by decide)]
          refine mk_ok.bs (mp_within _ _ _) ?_
          rw [if_pos hr, if_neg (by decide)]
          rw [if_pos (by decide), if_pos (by decide), if_pos (by decide)]
          refine mk_ok.bs (mn_ix (by omega) (by omega)) ?_
          exact mk_ok.ret ⟨(hM1.1.2.2.1 k (by omega)).2.2.2.2.2, hM1, mk_fX.s2 p0⟩
    · refine ⟨-1, r, u, t, hw, fun h hX => ?_, fun h hM => ?_⟩
      · unfold f_X_secret
        refine mk_ok.bs (mx_gT hX.1.1 hX.2.1.1) (mk_ok.bs (mx_hasSecret hT hX.2.1 _) ?_)
        rw [if_pos hk', if_neg (by decide)]
        have n0 : ¬ x2 = 0 := fun e => hr (by rw [e]; decide)
        have n1 : ¬ x2 = 1 := fun e => hr (by rw [e]; decide)
        have n2 : ¬ x2 = 2 := fun e => hr (by rw [e]; decide)
        have n3 : ¬ x2 = 3 := fun e => hr (by rw [e]; decide)
        have n4 : ¬ x2 = 4 := fun e => hr (by rw [e]; decide)
        have n5 : ¬ x2 = 5 := fun e => hr (by rw [e]; decide)
        have n6 : ¬ x2 = 6 := fun e => hr (by rw [e]; decide)
        have n7 : ¬ x2 = 7 := fun e => hr (by rw [e]; decide)
        have n8 : ¬ x2 = 8 := fun e => hr (by rw [e]; decide)
        have n9 : ¬ x2 = 9 := fun e => hr (by rw [e]; decide)
        rw [if_neg n0, if_neg n1, if_neg n2, if_neg n3, if_neg n4, if_neg n5, if_neg n6, if_neg n7, if_neg n8, if_neg n9]
        exact mk_ok.ret ⟨rfl, hX, mk_fM.rf⟩
      · unfold f_M_secret
        refine mk_ok.let ?_
        have p0 : mk_s2m h (mm_pI h 261 0 0) := mk_s2m.pI ⟨by decide, by decide⟩
        have hM1 := hM.s2 p0
        revert p0 hM1
        generalize mm_pI h 261 0 0 = h1
        intro p0 hM1
        refine mk_ok.bs (mi_isSecret hT hM1.1 _) ?_
        rw [if_pos hk', if_neg (by decide)]
        refine mk_ok.bs (mp_within _ _ _) ?_
        rw [if_neg hr, if_pos rfl]
        exact mk_ok.ret ⟨rfl, hM1, mk_fX.s2 p0⟩
  · refine ⟨-1, r, u, t, hw, fun h hX => ?_, fun h hM => ?_⟩
    · unfold f_X_secret
      refine mk_ok.bs (mx_gT hX.1.1 hX.2.1.1) (mk_ok.bs (mx_hasSecret hT hX.2.1 _) ?_)
      rw [if_neg hs, if_pos rfl]
      exact mk_ok.ret ⟨rfl, hX, mk_fM.rf⟩
    · unfold f_M_secret
      refine mk_ok.let ?_
      have p0 : mk_s2m h (mm_pI h 261 0 0) := mk_s2m.pI ⟨by decide, by decide⟩
      have hM1 := hM.s2 p0
      revert p0 hM1
      generalize mm_pI h 261 0 0 = h1
      intro p0 hM1
      refine mk_ok.bs (mi_isSecret hT hM1.1 _) ?_
      rw [if_neg hs, if_pos rfl]
      exact mk_ok.ret ⟨rfl, hM1, mk_fX.s2 p0⟩
theorem mk_all {S : Nat} (hS : S ≤ 10) : ((1 : Int32) <<< (Int32.ofNat S &&& 31)) - 1 = Int32.ofNat (2 ^ S - 1) := (by decide +kernel : ∀ S : Nat, S ≤ 10 → ((1 : Int32) <<< (Int32.ofNat S &&& 31)) - 1 = Int32.ofNat (2 ^ S - 1)) S hS
theorem mk_all_lt {S : Nat} : 2 ^ S - 1 < 2 ^ S := by
  have := Nat.two_pow_pos S
  omega
theorem mc_count (x1 : Int32) : mk_call (f_X_count x1) (f_M_count x1) := by
  refine mk_callof (fun A E t r u hw => ?_)
  have hT := hw.1
  have hW := hw.2.1
  have hP := hT.1.1
  have hS1 := hT.1.2.1
  by_cases hr : 0 ≤ x1 ∧ x1 ≤ 10
  · obtain ⟨j, hj, rfl⟩ := mk_upto (n := 10) (by omega) hr
    have hj : j = 0 ∨ j = 1 ∨ j = 2 ∨ j = 3 ∨ j = 4 ∨ j = 5 ∨ j = 6 ∨ j = 7 ∨ j = 8 ∨ j = 9 ∨ j = 10 := by omega
    rcases hj with rfl | rfl | rfl | rfl | rfl | rfl | rfl | rfl | rfl | rfl | rfl
    · refine ⟨Int32.ofNat (A 263 0), r, u, t, hw, fun h hX => ?_, fun h hM => ?_⟩
      · unfold f_X_count
        rw [if_pos (by decide)]
        refine mk_ok.bs (mx_gT hX.1.1 hX.2.1.1) ?_
        exact mk_ok.ret ⟨hX.2.1.2.1.1, hX, mk_fM.rf⟩
      · unfold f_M_count
        refine mk_ok.let ?_
        have p0 : mk_s2m h (mm_pI h 261 0 0) := mk_s2m.pI ⟨by decide, by decide⟩
        have hM1 := hM.s2 p0
        revert p0 hM1
        generalize mm_pI h 261 0 0 = h1
        intro p0 hM1
        refine mk_ok.bs (mp_within _ _ _) ?_
        rw [if_pos hr, if_neg (by decide)]
        rw [if_neg (by decide)]
        refine mk_ok.bs (mn_ix (k := 0) (by omega) (by omega)) ?_
        exact mk_ok.ret ⟨hM1.1.1 0 (by omega), hM1, mk_fX.s2 p0⟩
    · refine ⟨Int32.ofNat (A 263 1), r, u, t, hw, fun h hX => ?_, fun h hM => ?_⟩
      · unfold f_X_count
        rw [if_neg (by decide), if_pos (by decide)]
        refine mk_ok.bs (mx_gT hX.1.1 hX.2.1.1) ?_
        exact mk_ok.ret ⟨hX.2.1.2.1.2.1, hX, mk_fM.rf⟩
      · unfold f_M_count
        refine mk_ok.let ?_
        have p0 : mk_s2m h (mm_pI h 261 0 0) := mk_s2m.pI ⟨by decide, by decide⟩
        have hM1 := hM.s2 p0
        revert p0 hM1
        generalize mm_pI h 261 0 0 = h1
        intro p0 hM1
        refine mk_ok.bs (mp_within _ _ _) ?_
        rw [if_pos hr, if_neg (by decide)]
        rw [if_neg (by decide)]
        refine mk_ok.bs (mn_ix (k := 1) (by omega) (by omega)) ?_
        exact mk_ok.ret ⟨hM1.1.1 1 (by omega), hM1, mk_fX.s2 p0⟩
    · refine ⟨Int32.ofNat (A 263 2), r, u, t, hw, fun h hX => ?_, fun h hM => ?_⟩
      · unfold f_X_count
        rw [if_neg (by decide), if_neg (by decide), if_pos (by decide)]
        refine mk_ok.bs (mx_gT hX.1.1 hX.2.1.1) ?_
        exact mk_ok.ret ⟨hX.2.1.2.1.2.2.1, hX, mk_fM.rf⟩
      · unfold f_M_count
        refine mk_ok.let ?_
        have p0 : mk_s2m h (mm_pI h 261 0 0) := mk_s2m.pI ⟨by decide, by decide⟩
        have hM1 := hM.s2 p0
        revert p0 hM1
        generalize mm_pI h 261 0 0 = h1
        intro p0 hM1
        refine mk_ok.bs (mp_within _ _ _) ?_
        rw [if_pos hr, if_neg (by decide)]
        rw [if_neg (by decide)]
        refine mk_ok.bs (mn_ix (k := 2) (by omega) (by omega)) ?_
        exact mk_ok.ret ⟨hM1.1.1 2 (by omega), hM1, mk_fX.s2 p0⟩
    · refine ⟨Int32.ofNat (A 263 3), r, u, t, hw, fun h hX => ?_, fun h hM => ?_⟩
      · unfold f_X_count
        rw [if_neg (by decide), if_neg (by decide), if_neg (by decide), if_pos (by decide)]
        refine mk_ok.bs (mx_gT hX.1.1 hX.2.1.1) ?_
        exact mk_ok.ret ⟨hX.2.1.2.1.2.2.2.1, hX, mk_fM.rf⟩
      · unfold f_M_count
        refine mk_ok.let ?_
        have p0 : mk_s2m h (mm_pI h 261 0 0) := mk_s2m.pI ⟨by decide, by decide⟩
        have hM1 := hM.s2 p0
        revert p0 hM1
        generalize mm_pI h 261 0 0 = h1
        intro p0 hM1
        refine mk_ok.bs (mp_within _ _ _) ?_
        rw [if_pos hr, if_neg (by decide)]
        rw [if_neg (by decide)]
        refine mk_ok.bs (mn_ix (k := 3) (by omega) (by omega)) ?_
        exact mk_ok.ret ⟨hM1.1.1 3 (by omega), hM1, mk_fX.s2 p0⟩
    · refine ⟨Int32.ofNat (r 85), r, u, t, hw, fun h hX => ?_, fun h hM => ?_⟩
      · unfold f_X_count
        rw [if_neg (by decide), if_neg (by decide), if_neg (by decide), if_neg (by decide), if_pos (by decide)]
        exact mk_ok.ret ⟨hX.2.2.1.1.2.2.2.2.2.2.2, hX, mk_fM.rf⟩
      · unfold f_M_count
        refine mk_ok.let ?_
        have p0 : mk_s2m h (mm_pI h 261 0 0) := mk_s2m.pI ⟨by decide, by decide⟩
        have hM1 := hM.s2 p0
        revert p0 hM1
        generalize mm_pI h 261 0 0 = h1
        intro p0 hM1
        refine mk_ok.bs (mp_within _ _ _) ?_
        rw [if_pos hr, if_neg (by decide)]
        rw [if_pos (by decide), if_neg (by decide), if_pos (by decide)]
        exact mk_ok.ret ⟨hM1.2.1 85 (by omega), hM1, mk_fX.s2 p0⟩
    · refine ⟨Int32.ofNat (mk_ws A E r (2 ^ A 263 1 - 1)), r, u, t, hw, fun h hX => ?_, fun h hM => ?_⟩
      · unfold f_X_count
        rw [if_neg (by decide), if_neg (by decide), if_neg (by decide), if_neg (by decide), if_neg (by decide), if_pos (by decide)]
        refine mk_ok.bind (mx_weighed hT hW hX.1.1 hX.2.1 (Or.inl rfl) hX.2.2.1.1) (fun v ⟨v1, v2⟩ => ?_)
        have hX2 := hX.DX hw v1
        refine mk_ok.bs (mx_gT hX2.1.1 hX2.2.1.1) ?_
        refine mk_ok.bs (by unfold f_To_allSecrets; rw [if_pos (mk_tt hX2.2.1.1).1, hX2.2.1.2.1.2.1, mk_all hS1]) ?_
        refine mk_ok.bs (mx_together hT v2 mk_all_lt) ?_
        exact mk_ok.ret ⟨rfl, hX2, mk_DXs v1 hX.2.1.1⟩
      · unfold f_M_count
        refine mk_ok.let ?_
        have p0 : mk_s2m h (mm_pI h 261 0 0) := mk_s2m.pI ⟨by decide, by decide⟩
        have hM1 := hM.s2 p0
        revert p0 hM1
        generalize mm_pI h 261 0 0 = h1
        intro p0 hM1
        refine mk_ok.bs (mp_within _ _ _) ?_
        rw [if_pos hr, if_neg (by decide)]
        rw [if_pos (by decide), if_neg (by decide), if_neg (by decide), if_pos (by decide)]
        refine mk_ok.bs (by unfold f_M_allSecrets; rw [hM1.1.1 1 (by omega), mk_all hS1]) ?_
        refine mk_ok.bind (mi_worthsOf hT hW hM1.1 hM1.2.1 (by have := mk_s2 hS1 (mk_all_lt (S := A 263 1)); omega)) (fun v ⟨v1, v2⟩ => ?_)
        obtain ⟨m1, m2⟩ := hM1.DM v2
        exact mk_ok.ret ⟨v1, m1, (mk_fX.s2 p0).tr m2⟩
    · refine ⟨Int32.ofNat (u 30 0), r, u, t, hw, fun h hX => ?_, fun h hM => ?_⟩
      · unfold f_X_count
        rw [if_neg (by decide), if_neg (by decide), if_neg (by decide), if_neg (by decide), if_neg (by decide), if_neg (by decide), if_pos (by decide)]
        exact mk_ok.ret ⟨hX.2.2.2.2.2.1.1, hX, mk_fM.rf⟩
      · unfold f_M_count
        refine mk_ok.let ?_
        have p0 : mk_s2m h (mm_pI h 261 0 0) := mk_s2m.pI ⟨by decide, by decide⟩
        have hM1 := hM.s2 p0
        revert p0 hM1
        generalize mm_pI h 261 0 0 = h1
        intro p0 hM1
        refine mk_ok.bs (mp_within _ _ _) ?_
        rw [if_pos hr, if_neg (by decide)]
        rw [if_pos (by decide), if_neg (by decide), if_neg (by decide), if_neg (by decide)]
        exact mk_ok.ret ⟨hM1.2.2.2.2.1.1, hM1, mk_fX.s2 p0⟩
    · refine ⟨Int32.ofNat (u 30 1), r, u, t, hw, fun h hX => ?_, fun h hM => ?_⟩
      · unfold f_X_count
        rw [if_neg (by decide), if_neg (by decide), if_neg (by decide), if_neg (by decide), if_neg (by decide), if_neg (by decide), if_neg (by decide), if_pos (by decide)]
        exact mk_ok.ret ⟨hX.2.2.2.2.2.1.2.1, hX, mk_fM.rf⟩
      · unfold f_M_count
        refine mk_ok.let ?_
        have p0 : mk_s2m h (mm_pI h 261 0 0) := mk_s2m.pI ⟨by decide, by decide⟩
        have hM1 := hM.s2 p0
        revert p0 hM1
        generalize mm_pI h 261 0 0 = h1
        intro p0 hM1
        refine mk_ok.bs (mp_within _ _ _) ?_
        rw [if_pos hr, if_neg (by decide)]
        rw [if_pos (by decide), if_pos (by decide), if_pos (by decide)]
        exact mk_ok.ret ⟨hM1.2.2.2.2.1.2.1, hM1, mk_fX.s2 p0⟩
    · refine ⟨Int32.ofNat (r 122), r, u, t, hw, fun h hX => ?_, fun h hM => ?_⟩
      · unfold f_X_count
        rw [if_neg (by decide), if_neg (by decide), if_neg (by decide), if_neg (by decide), if_neg (by decide), if_neg (by decide), if_neg (by decide), if_neg (by decide), if_pos (by decide)]
        exact mk_ok.ret ⟨hX.2.2.1.1.2.2.2.2.2.2.1, hX, mk_fM.rf⟩
      · unfold f_M_count
        refine mk_ok.let ?_
        have p0 : mk_s2m h (mm_pI h 261 0 0) := mk_s2m.pI ⟨by decide, by decide⟩
        have hM1 := hM.s2 p0
        revert p0 hM1
        generalize mm_pI h 261 0 0 = h1
        intro p0 hM1
        refine mk_ok.bs (mp_within _ _ _) ?_
        rw [if_pos hr, if_neg (by decide)]
        rw [if_pos (by decide), if_pos (by decide), if_neg (by decide), if_pos (by decide)]
        exact mk_ok.ret ⟨hM1.2.1 122 (by omega), hM1, mk_fX.s2 p0⟩
    · refine ⟨Int32.ofNat (u 0 0), r, u, t, hw, fun h hX => ?_, fun h hM => ?_⟩
      · unfold f_X_count
        rw [if_neg (by decide), if_neg (by decide), if_neg (by decide), if_neg (by decide), if_neg (by decide), if_neg (by decide), if_neg (by decide), if_neg (by decide), if_neg (by decide), if_pos (by decide)]
        exact mk_ok.ret ⟨hX.2.2.2.1.1, hX, mk_fM.rf⟩
      · unfold f_M_count
        refine mk_ok.let ?_
        have p0 : mk_s2m h (mm_pI h 261 0 0) := mk_s2m.pI ⟨by decide, by decide⟩
        have hM1 := hM.s2 p0
        revert p0 hM1
        generalize mm_pI h 261 0 0 = h1
        intro p0 hM1
        refine mk_ok.bs (mp_within _ _ _) ?_
        rw [if_pos hr, if_neg (by decide)]
        rw [if_pos (by decide), if_pos (by decide), if_neg (by decide), if_neg (by decide), if_pos (by decide)]
        exact mk_ok.ret ⟨hM1.2.2.1.1, hM1, mk_fX.s2 p0⟩
    · refine ⟨Int32.ofNat (u 90 0), r, u, t, hw, fun h hX => ?_, fun h hM => ?_⟩
      · unfold f_X_count
        rw [if_neg (by decide), if_neg (by decide), if_neg (by decide), if_neg (by decide), if_neg (by decide), if_neg (by decide), if_neg (by decide), if_neg (by decide), if_neg (by decide), if_neg (by decide), if_pos (by decide)]
        exact mk_ok.ret ⟨hX.2.2.2.2.2.2.1.1, hX, mk_fM.rf⟩
      · unfold f_M_count
        refine mk_ok.let ?_
        have p0 : mk_s2m h (mm_pI h 261 0 0) := mk_s2m.pI ⟨by decide, by decide⟩
        have hM1 := hM.s2 p0
        revert p0 hM1
        generalize mm_pI h 261 0 0 = h1
        intro p0 hM1
        refine mk_ok.bs (mp_within _ _ _) ?_
        rw [if_pos hr, if_neg (by decide)]
        rw [if_pos (by decide), if_pos (by decide), if_neg (by decide), if_neg (by decide), if_neg (by decide)]
        exact mk_ok.ret ⟨hM1.2.2.2.2.2.1.1, hM1, mk_fX.s2 p0⟩
  · refine ⟨-1, r, u, t, hw, fun h hX => ?_, fun h hM => ?_⟩
    · unfold f_X_count
      have n0 : ¬ x1 = 0 := fun e => hr (by rw [e]; decide)
      have n1 : ¬ x1 = 1 := fun e => hr (by rw [e]; decide)
      have n2 : ¬ x1 = 2 := fun e => hr (by rw [e]; decide)
      have n3 : ¬ x1 = 3 := fun e => hr (by rw [e]; decide)
      have n4 : ¬ x1 = 4 := fun e => hr (by rw [e]; decide)
      have n5 : ¬ x1 = 5 := fun e => hr (by rw [e]; decide)
      have n6 : ¬ x1 = 6 := fun e => hr (by rw [e]; decide)
      have n7 : ¬ x1 = 7 := fun e => hr (by rw [e]; decide)
      have n8 : ¬ x1 = 8 := fun e => hr (by rw [e]; decide)
      have n9 : ¬ x1 = 9 := fun e => hr (by rw [e]; decide)
      have n10 : ¬ x1 = 10 := fun e => hr (by rw [e]; decide)
      rw [if_neg n0, if_neg n1, if_neg n2, if_neg n3, if_neg n4, if_neg n5, if_neg n6, if_neg n7, if_neg n8, if_neg n9, if_neg n10]
      exact mk_ok.ret ⟨rfl, hX, mk_fM.rf⟩
    · unfold f_M_count
      refine mk_ok.let ?_
      have p0 : mk_s2m h (mm_pI h 261 0 0) := mk_s2m.pI ⟨by decide, by decide⟩
      have hM1 := hM.s2 p0
      revert p0 hM1
      generalize mm_pI h 261 0 0 = h1
      intro p0 hM1
      refine mk_ok.bs (mp_within _ _ _) ?_
      rw [if_neg hr, if_pos rfl]
      exact mk_ok.ret ⟨rfl, hM1, mk_fX.s2 p0⟩
