/-! aware, ear -/
theorem mn_bit64 {x : Int64} {m : Nat} (hm : m < 60) : (x >>> (Int32.toInt64 (Int32.ofNat m) &&& 63)) &&& 1 = if x.toBitVec.getLsbD m = true then 1 else 0 := by
  apply Int64.toBitVec_inj.1
  have e1 : (Int32.toInt64 (Int32.ofNat m) &&& 63) = Int64.ofNat m := (by decide +kernel : ∀ j : Nat, j < 60 → (Int32.toInt64 (Int32.ofNat j) &&& 63) = Int64.ofNat j) m hm
  have e2 : (BitVec.ofNat 64 m).smod 64 = BitVec.ofNat 64 m := (by decide +kernel : ∀ j : Nat, j < 60 → (BitVec.ofNat 64 j).smod 64 = BitVec.ofNat 64 j) m hm
  rw [e1]
  show (x.toBitVec).sshiftRight' ((BitVec.ofNat 64 m).smod 64) &&& 1#64 = _
  rw [e2]
  have e3 : (BitVec.ofNat 64 m).toNat = m := by
    rw [BitVec.toNat_ofNat]
    exact Nat.mod_eq_of_lt (by omega)
  apply BitVec.eq_of_getLsbD_eq
  intro i hi
  rw [BitVec.getLsbD_and, BitVec.sshiftRight', e3, BitVec.getLsbD_sshiftRight]
  have o1 : (1#64).getLsbD i = decide (i = 0) := by
    rw [BitVec.getLsbD_ofNat, mn_t1]
    simp [hi]
  rw [o1]
  by_cases h0 : i = 0
  · subst h0
    have hm2 : m + 0 < 64 := by omega
    rw [if_pos hm2, Nat.add_zero]
    cases hb : x.toBitVec.getLsbD m
    · rw [if_neg (by decide)]
      show _ = (0#64).getLsbD 0
      simp
    · rw [if_pos rfl]
      show _ = (1#64).getLsbD 0
      rw [BitVec.getLsbD_ofNat, mn_t1]
      simp
  · rw [decide_eq_false h0, Bool.and_false]
    cases hb : x.toBitVec.getLsbD m
    · rw [if_neg (by decide)]
      show false = (0#64).getLsbD i
      simp
    · rw [if_pos rfl]
      show false = (1#64).getLsbD i
      rw [o1, decide_eq_false h0]
theorem mc_aware (x1 x2 x3 : Int32) : mk_call (fun h => (f_X_aware x1 x2 x3 h).bind fun v => some (v, h)) (f_M_aware x1 x2 x3) := by
  refine mk_callof (fun A E t r u hw => ?_)
  have hT := hw.1
  have hW := hw.2.1
  have hP := hT.1.1
  have hS1 := hT.1.2.1
  by_cases h2 : mk_two A x1 x2
  · by_cases hs : mk_is (A 263 1) x3
    · obtain ⟨⟨p, hp, rfl⟩, ⟨q, hq, rfl⟩, hne⟩ := id h2
      obtain ⟨k, hk, rfl⟩ := id hs
      have b7 := mk_p2 hP (hW.2.2.2.2.2.2.1 p k hp hk)
      refine ⟨Int32.ofNat ((r (10 + 10 * p + k)).testBit q).toNat, r, u, t, hw, fun h hX => ?_, fun h hM => ?_⟩
      · have e : f_X_aware (Int32.ofNat p) (Int32.ofNat q) (Int32.ofNat k) h = some (Int32.ofNat ((r (10 + 10 * p + k)).testBit q).toNat) := by
          unfold f_X_aware
          rw [mx_gT hX.1.1 hX.2.1.1]
          simp only [Option.bind_some]
          rw [mx_hasPair hT hX.2.1, if_pos h2]
          simp only [Option.bind_some]
          rw [if_neg (by decide), mx_hasSecret hT hX.2.1, if_pos hs]
          simp only [Option.bind_some]
          rw [if_neg (by decide)]
          unfold f_St_isAware
          rw [if_pos hX.2.2.1.1.1]
          simp (disch := omega) only [mn_ix, Option.bind_some, mn_mull, mn_add, mn_bit64]
          rw [hX.2.2.1.2.1 p q k hp hq hk]
          cases (r (10 + 10 * p + k)).testBit q
          · rw [if_neg (show ¬ false = true by decide), if_neg (fun z => absurd ((mp_lcmp _ _).mp z) (by decide))]; rfl
          · rw [if_pos rfl, if_pos ((mp_lcmp _ _).mpr rfl)]; rfl
        show mk_ok ((f_X_aware _ _ _ h).bind _) _
        rw [e]
        exact mk_ok.ret ⟨rfl, hX, mk_fM.rf⟩
      · unfold f_M_aware
        refine mk_ok.let ?_
        have p0 : mk_s2m h (mm_pI h 261 0 0) := mk_s2m.pI ⟨by decide, by decide⟩
        have hM1 := hM.s2 p0
        revert p0 hM1
        generalize mm_pI h 261 0 0 = h1
        intro p0 hM1
        rw [mi_areTwo hT hM1.1, if_pos h2]
        refine mk_ok.bs rfl ?_
        rw [if_neg (by decide), mi_isSecret hT hM1.1, if_pos hs]
        refine mk_ok.bs rfl ?_
        rw [if_neg (by decide)]
        have e := hM1.2.1 (10 + 10 * p + k) (by omega)
        simp (disch := omega) only [mn_lmul, mn_ladd, mn_add, mn_ix, Option.bind_some, e, mn_bit]
        exact mk_ok.ret ⟨rfl, hM1, mk_fX.s2 p0⟩
    · refine ⟨-1, r, u, t, hw, fun h hX => ?_, fun h hM => ?_⟩
      · have e : f_X_aware x1 x2 x3 h = some (-1) := by
          unfold f_X_aware
          rw [mx_gT hX.1.1 hX.2.1.1]
          simp only [Option.bind_some]
          rw [mx_hasPair hT hX.2.1, if_pos h2]
          simp only [Option.bind_some]
          rw [if_neg (by decide), mx_hasSecret hT hX.2.1, if_neg hs]
          rfl
        show mk_ok ((f_X_aware _ _ _ h).bind _) _
        rw [e]
        exact mk_ok.ret ⟨rfl, hX, mk_fM.rf⟩
      · unfold f_M_aware
        refine mk_ok.let ?_
        have p0 : mk_s2m h (mm_pI h 261 0 0) := mk_s2m.pI ⟨by decide, by decide⟩
        have hM1 := hM.s2 p0
        revert p0 hM1
        generalize mm_pI h 261 0 0 = h1
        intro p0 hM1
        rw [mi_areTwo hT hM1.1, if_pos h2]
        refine mk_ok.bs rfl ?_
        rw [if_neg (by decide), mi_isSecret hT hM1.1, if_neg hs]
        refine mk_ok.bs rfl ?_
        rw [if_pos rfl]
        exact mk_ok.ret ⟨rfl, hM1, mk_fX.s2 p0⟩
  · refine ⟨-1, r, u, t, hw, fun h hX => ?_, fun h hM => ?_⟩
    · have e : f_X_aware x1 x2 x3 h = some (-1) := by
        unfold f_X_aware
        rw [mx_gT hX.1.1 hX.2.1.1]
        simp only [Option.bind_some]
        rw [mx_hasPair hT hX.2.1, if_neg h2]
        rfl
      show mk_ok ((f_X_aware _ _ _ h).bind _) _
      rw [e]
      exact mk_ok.ret ⟨rfl, hX, mk_fM.rf⟩
    · unfold f_M_aware
      refine mk_ok.let ?_
      have p0 : mk_s2m h (mm_pI h 261 0 0) := mk_s2m.pI ⟨by decide, by decide⟩
      have hM1 := hM.s2 p0
      revert p0 hM1
      generalize mm_pI h 261 0 0 = h1
      intro p0 hM1
      rw [mi_areTwo hT hM1.1, if_neg h2]
      refine mk_ok.bs rfl ?_
      rw [if_pos rfl]
      exact mk_ok.ret ⟨rfl, hM1, mk_fX.s2 p0⟩
/-- by which ear -/
theorem mk_ear_at {A : mk_A} (hT : mk_T A) {k p q : Nat} (hp : A 275 k = p) (hq : A 276 k = q) : ∀ n, k < n → n ≤ A 263 2 → mk_ear A p q n = A 277 k + 1 := by
  intro n
  induction n with
  | zero => intro h; omega
  | succ n ih =>
    intro h1 h2
    unfold mk_ear
    by_cases e : n = k
    · subst e
      rw [if_pos ⟨hp, hq⟩]
    · have hne := hT.2.2.2.2 n k (by omega) (by omega)
      rw [if_neg (fun z => hne ⟨z.1.trans hp.symm, z.2.trans hq.symm⟩)]
      exact ih (by omega) (by omega)
theorem mk_ear_no {A : mk_A} {p q : Nat} : ∀ n, (∀ k, k < n → ¬ (A 275 k = p ∧ A 276 k = q)) → mk_ear A p q n = 0 := by
  intro n
  induction n with
  | zero => intro _; rfl
  | succ n ih =>
    intro h
    unfold mk_ear
    rw [if_neg (h n (by omega))]
    exact ih (fun k hk => h k (by omega))
/-- the chance of p to tell q, + 1; 0: no ear -/
def mk_chc (A : mk_A) (p q : Nat) : Nat := if mk_ear A p q (A 263 2) = 0 then 0 else min 10 (mk_ear A p q (A 263 2) - 1 + (if A 266 p = 1 then 1 else 0)) + 1
theorem mk_ear_le {A : mk_A} (hT : mk_T A) (p q : Nat) : ∀ n, n ≤ A 263 2 → mk_ear A p q n ≤ 11 := by
  intro n
  induction n with
  | zero => intro _; exact Nat.zero_le _
  | succ n ih =>
    intro h
    unfold mk_ear
    split
    · have := (hT.2.2.2.1 n (by omega)).2.2.2; omega
    · exact ih (by omega)
theorem mx_chance {A : mk_A} {E : mk_E} {t : Nat} {h : mm_H} (hT : mk_T A) (hX : mk_XT A E t h) {p q : Nat} (hp : p < A 263 0) (hq : q < A 263 0) : f_To_chance t (Int32.ofNat p) (Int32.ofNat q) h = some (Int32.ofNat (mk_chc A p q) - 1) := by
  have hP := hT.1.1
  have e1 := hX.2.2.2.2.2.1 p q hp hq
  have e2 := (hX.2.2.1 p hp).1
  have e3 := (hT.2.1 p hp).1
  have e4 := mk_ear_le hT p q _ (Nat.le_refl _)
  unfold f_To_chance mk_chc
  rw [if_pos (mk_tt hX.1).1]
  simp (disch := omega) only [mn_mull, mn_add, mn_ix, Option.bind_some, mm_let, mm_jp, e1, e2, mn_eql]
  by_cases h0 : mk_ear A p q (A 263 2) = 0
  · rw [h0, if_pos rfl, if_pos (by decide)]
  · rw [if_neg h0, mn_on1 h0]
    have hn : ¬ Int32.ofNat (mk_ear A p q (A 263 2) - 1) < 0 := by
      intro z
      have := (mn_ltl (b := 0) (by omega) (by decide)).mp z
      exact absurd this (Nat.not_lt_zero _)
    rw [if_neg hn]
    by_cases h1 : A 266 p = 1
    · rw [if_pos h1, if_pos h1]
      have e5 : f_JM_min (Int32.ofNat (mk_ear A p q (A 263 2) - 1) + 1) 10 = some (Int32.ofNat (min (mk_ear A p q (A 263 2) - 1 + 1) 10)) := by
        rw [mn_addl 1]
        exact mn_min (b := 10) (show mk_ear A p q (A 263 2) - 1 + 1 < 2147483648 by omega) (by omega)
      rw [e5]
      simp only [Option.bind_some]
      rw [mn_on1 (by omega)]
      congr 2
      omega
    · rw [if_neg h1, if_neg h1, mn_on1 (by omega)]
      congr 2
      omega
theorem mi_chanceOf {A : mk_A} {E : mk_E} {h : mm_H} (hT : mk_T A) (hM : mk_MT A E h) {k : Nat} (hk : k < A 263 2) : f_M_chanceOf (Int32.ofNat k) h = some (Int32.ofNat (min 10 (A 277 k + (if A 266 (A 275 k) = 1 then 1 else 0)))) := by
  have hP := hT.1.1
  have hE := hT.1.2.2.1
  obtain ⟨t1, t2, t3, t4⟩ := hT.2.2.2.1 k hk
  obtain ⟨e1, e2, e3⟩ := hM.2.2.2.1 k (by omega)
  have e4 := (hM.2.1 (A 275 k) (by omega)).1
  have e5 := (hT.2.1 (A 275 k) t1).1
  unfold f_M_chanceOf
  simp (disch := omega) only [mn_ix, Option.bind_some, e1, e4, mn_eql, e3]
  by_cases h1 : A 266 (A 275 k) = 1
  · rw [if_pos h1, if_pos h1]
    simp only [Option.bind_some]
    rw [mn_addl 1]
    rw [show (10 : Int32) = Int32.ofNat 10 from rfl, mn_min (by omega) (show A 277 k + OfNat.ofNat 1 < 2147483648 by show A 277 k + 1 < _; omega)]
    rfl
  · rw [if_neg h1, if_neg h1]
    simp only [Option.bind_some, Int32.add_zero, Nat.add_zero]
    rw [show (10 : Int32) = Int32.ofNat 10 from rfl, mn_min (by omega) (by omega)]
    rfl
theorem mc_ear (x1 x2 : Int32) : mk_call (fun h => (f_X_ear x1 x2 h).bind fun v => some (v, h)) (f_M_ear x1 x2) := by
  refine mk_callof (fun A E t r u hw => ?_)
  have hT := hw.1
  have hP := hT.1.1
  have hE := hT.1.2.2.1
  -- the reference's loop
  have loopM : ∀ (a : Int32) (n : Nat), n ≤ A 263 2 → (∀ k, k < n → ¬ (Int32.ofNat (A 275 k) = x1 ∧ Int32.ofNat (A 276 k) = x2)) → ((n = A 263 2 ∧ a = -1) ∨ (n < A 263 2 ∧ Int32.ofNat (A 275 n) = x1 ∧ Int32.ofNat (A 276 n) = x2 ∧ a = Int32.ofNat (min 10 (A 277 n + (if A 266 (A 275 n) = 1 then 1 else 0))))) → ∀ h, mk_M A E r u h → mk_ok (f_M_ear x1 x2 h) (fun v => v.1 = a ∧ mk_M A E r u v.2 ∧ mk_fX h v.2) := by
    intro a n hn hno hend h hM
    unfold f_M_ear
    refine mk_ok.let ?_
    have p0 : mk_s2m h (mm_pI h 261 0 0) := mk_s2m.pI ⟨by decide, by decide⟩
    have hM1 := hM.s2 p0
    revert p0 hM1
    generalize mm_pI h 261 0 0 = h1
    intro p0 hM1
    have e0 := hM1.1.1 2 (by omega)
    refine mk_ok.for n (fun i z => z = Int32.ofNat i) (Q := fun v : Int32 × mm_H => v.1 = a ∧ mk_M A E r u v.2 ∧ mk_fX h v.2) rfl (fun i z hi hz => ?_) (fun z hz => ?_)
    · subst hz
      have c := hno i hi
      obtain ⟨e1, e2, e3⟩ := hM1.1.2.2.2.1 i (by omega)
      simp (disch := omega) only [e0, mn_le, mn_ix, Option.bind_some, mm_jp, mm_let, mn_addl, e1, e2]
      rw [if_neg (by omega)]
      by_cases c1 : Int32.ofNat (A 275 i) = x1
      · rw [if_pos c1, if_neg (fun c2 => c ⟨c1, c2⟩)]
        exact mk_ok.inl rfl
      · rw [if_neg c1]
        exact mk_ok.inl rfl
    · subst hz
      rcases hend with ⟨rfl, rfl⟩ | ⟨hlt, c1, c2, rfl⟩
      · simp (disch := omega) only [e0, mn_le]
        rw [if_pos (Nat.le_refl _)]
        exact mk_ok.inr ⟨rfl, hM1, mk_fX.s2 p0⟩
      · obtain ⟨e1, e2, e3⟩ := hM1.1.2.2.2.1 n (by omega)
        simp (disch := omega) only [e0, mn_le, mn_ix, Option.bind_some, mm_jp, mm_let, mn_addl, e1, e2]
        rw [if_neg (by omega), if_pos c1, if_pos c2, mi_chanceOf hT hM1.1 hlt]
        exact mk_ok.inr ⟨rfl, hM1, mk_fX.s2 p0⟩
  by_cases h2 : mk_two A x1 x2
  · obtain ⟨⟨p, hp, rfl⟩, ⟨q, hq, rfl⟩, hne⟩ := id h2
    have xs : ∀ h, mk_X A E t r u h → mk_ok ((f_X_ear (Int32.ofNat p) (Int32.ofNat q) h).bind fun v => some (v, h)) (fun v => v.1 = Int32.ofNat (mk_chc A p q) - 1 ∧ mk_X A E t r u v.2 ∧ mk_fM h v.2) := by
      intro h hX
      have e : f_X_ear (Int32.ofNat p) (Int32.ofNat q) h = some (Int32.ofNat (mk_chc A p q) - 1) := by
        unfold f_X_ear
        rw [mx_gT hX.1.1 hX.2.1.1]
        simp only [Option.bind_some]
        rw [mx_hasPair hT hX.2.1, if_pos h2]
        simp only [Option.bind_some]
        rw [if_neg (by decide), mx_chance hT hX.2.1 hp hq]
        rfl
      rw [e]
      exact mk_ok.ret ⟨rfl, hX, mk_fM.rf⟩
    by_cases hk : ∃ k, k < A 263 2 ∧ A 275 k = p ∧ A 276 k = q
    · obtain ⟨k, hk, k1, k2⟩ := hk
      have ek := mk_ear_at hT k1 k2 _ hk (Nat.le_refl _)
      refine ⟨Int32.ofNat (mk_chc A p q) - 1, r, u, t, hw, xs, loopM _ k (by omega) (fun i hi z => ?_) (Or.inr ⟨hk, by rw [k1], by rw [k2], ?_⟩)⟩
      · have i1 := (hT.2.2.2.1 i (by omega)).1
        have i2 := (hT.2.2.2.1 i (by omega)).2.1
        have z1 := (mn_eq (by omega) (by omega)).mp z.1
        have z2 := (mn_eq (by omega) (by omega)).mp z.2
        exact hT.2.2.2.2 k i hk hi ⟨k1.trans z1.symm, k2.trans z2.symm⟩
      · unfold mk_chc
        rw [ek, if_neg (by omega), mn_on1 (by omega), k1]
        congr 1
    · have e0 : mk_ear A p q (A 263 2) = 0 := mk_ear_no _ (fun k hk2 z => hk ⟨k, hk2, z⟩)
      refine ⟨Int32.ofNat (mk_chc A p q) - 1, r, u, t, hw, xs, loopM _ (A 263 2) (Nat.le_refl _) (fun i hi z => ?_) (Or.inl ⟨rfl, ?_⟩)⟩
      · have i1 := (hT.2.2.2.1 i hi).1
        have i2 := (hT.2.2.2.1 i hi).2.1
        have z1 := (mn_eq (by omega) (by omega)).mp z.1
        have z2 := (mn_eq (by omega) (by omega)).mp z.2
        exact hk ⟨i, hi, z1, z2⟩
      · unfold mk_chc
        rw [if_pos e0]
        rfl
  · refine ⟨-1, r, u, t, hw, fun h hX => ?_, loopM _ (A 263 2) (Nat.le_refl _) (fun i hi z => ?_) (Or.inl ⟨rfl, rfl⟩)⟩
    · have e : f_X_ear x1 x2 h = some (-1) := by
        unfold f_X_ear
        rw [mx_gT hX.1.1 hX.2.1.1]
        simp only [Option.bind_some]
        rw [mx_hasPair hT hX.2.1, if_neg h2]
        rfl
      show mk_ok ((f_X_ear _ _ h).bind _) _
      rw [e]
      exact mk_ok.ret ⟨rfl, hX, mk_fM.rf⟩
    · obtain ⟨i1, i2, i3, i4⟩ := hT.2.2.2.1 i hi
      refine h2 ⟨⟨_, i1, z.1.symm⟩, ⟨_, i2, z.2.symm⟩, fun e => i3 ?_⟩
      rw [← z.1, ← z.2] at e
      exact (mn_eq (by omega) (by omega)).mp e
