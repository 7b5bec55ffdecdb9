/-! town: a line, the lines -/
noncomputable def mj_mline (g : mm_H) : Option (Int32 × mm_H) := (f_M_isWord (232608281 : Int64) g).bind fun v28 => (if v28 = 0 then ((f_M_isWord (275358764 : Int64) g).bind fun v32 => if v32 = 0 then ((f_M_isWord (3690 : Int64) g).bind fun v34 => if v34 = 0 then ((f_M_isWord (1831769 : Int64) g).bind fun v36 => if v36 = 0 then ((f_M_isWord (12532058 : Int64) g).bind fun v38 => if v38 = 0 then ((f_M_fails 1 g).bind fun v40 => some (v40.1, v40.2)) else ((f_M_readsWorth g).bind fun v42 => some (v42.1, v42.2))) else ((f_M_readsClash g).bind fun v47 => some (v47.1, v47.2))) else ((f_M_readsEar g).bind fun v52 => some (v52.1, v52.2))) else ((f_M_readsSecret g).bind fun v57 => some (v57.1, v57.2))) else ((f_M_readsPerson g).bind fun v62 => some (v62.1, v62.2)) : Option (Int32 × mm_H))
theorem mj_id {o : Option (Int32 × mm_H)} : (o.bind fun v => some (v.1, v.2)) = o := by
  cases o with
  | none => rfl
  | some a => rfl
theorem mj_TL.bo {s : mk_S} {b d : Nat} {hX hM : mm_H} {oX oM : Option (Int32 × mm_H)} (h : mj_two oX oM (mj_TL s b d hX hM)) : mj_two (oX.bind fun v => (mm_bo v.1).bind fun x => some (x, v.2)) oM (mj_TL s b d hX hM) := by
  obtain ⟨a, c, e1, e2, R⟩ := h
  refine ⟨a, c, ?_, e2, R⟩
  rw [e1]
  obtain ⟨a1, a2⟩ := a
  rcases R with ⟨f, nz, r1, r⟩ | ⟨b', A', nP', nS', E', lt, r1, r⟩
  · obtain rfl : a1 = 0 := r1
    rfl
  · obtain rfl : a1 = 1 := r1
    rfl
theorem mj_two.cons' {α β : Type} {oX : Option α} {oM : Option β} {Q R : α → β → Prop} (h : mj_two oX oM Q) (hk : ∀ a b, Q a b → R a b) : mj_two oX oM R := h.cons hk
theorem mj_tline {A : mk_A} {E : mk_E} {nP nS : Nat → Nat → Nat} {s : mk_S} {b d : Nat} {hX hM : mm_H} (hs : mk_sgs s) (hd : d = 79 ∨ d = 96) (B : mj_BT A nP nS) (bc : A 263 3 ≤ b) (bX : mj_BX A nP nS d hX) (bM : mj_BM A nP nS hM) (TX : mk_TKX s b hX) (h9 : hX.1 33 9 = 0) (TM : mk_TKM s b hM) (L : mv_LE d E hX hM) : mj_two (f_Tr_readLine d hX) (mj_mline hM) (mj_TL s b d hX hM) := by
  have td : mm_tg d = 7 := (mk_tt hd).1
  have s1 := hs.1
  have bl := TX.1
  have d33 : 33 < d := by omega
  have gw := mx_gW TX
  unfold f_Tr_readLine mj_mline
  rw [if_pos td]
  have i0 : (mk_isw s b 0 → f_M_isWord 232608281 hM = some 1) ∧ (¬ mk_isw s b 0 → f_M_isWord 232608281 hM = some 0) := mi_isWord (i := 0) TM (by omega)
  have i3 : (mk_isw s b 3 → f_M_isWord 275358764 hM = some 1) ∧ (¬ mk_isw s b 3 → f_M_isWord 275358764 hM = some 0) := mi_isWord (i := 3) TM (by omega)
  have i8 : (mk_isw s b 8 → f_M_isWord 3690 hM = some 1) ∧ (¬ mk_isw s b 8 → f_M_isWord 3690 hM = some 0) := mi_isWord (i := 8) TM (by omega)
  have i9 : (mk_isw s b 9 → f_M_isWord 1831769 hM = some 1) ∧ (¬ mk_isw s b 9 → f_M_isWord 1831769 hM = some 0) := mi_isWord (i := 9) TM (by omega)
  have iA : (mk_isw s b 10 → f_M_isWord 12532058 hM = some 1) ∧ (¬ mk_isw s b 10 → f_M_isWord 12532058 hM = some 0) := mi_isWord (i := 10) TM (by omega)
  refine mj_two.xs gw ?_
  by_cases c0 : mk_isw s b 0
  · rw [if_pos ((mk_wo_iff (by omega)).mpr c0)]
    refine mj_two.ms (i0.1 c0) ?_
    rw [if_neg (show ¬ (1 : Int32) = 0 by decide), mj_id]
    exact mj_TL.bo ((mj_person hs hd B bc bX bM TX h9 TM).cons (fun a c R => R.L d33 L))
  · rw [if_neg (fun z => c0 ((mk_wo_iff (by omega)).mp z))]
    refine mj_two.ms (i0.2 c0) ?_
    rw [if_pos rfl]
    refine mj_two.xs gw ?_
    by_cases c3 : mk_isw s b 3
    · rw [if_pos ((mk_wo_iff (by omega)).mpr c3)]
      refine mj_two.ms (i3.1 c3) ?_
      rw [if_neg (show ¬ (1 : Int32) = 0 by decide), mj_id]
      exact mj_TL.bo ((mj_secret hs hd B bc bX bM TX h9 TM).cons (fun a c R => R.L d33 L))
    · rw [if_neg (fun z => c3 ((mk_wo_iff (by omega)).mp z))]
      refine mj_two.ms (i3.2 c3) ?_
      rw [if_pos rfl]
      refine mj_two.xs gw ?_
      by_cases c8 : mk_isw s b 8
      · rw [if_pos ((mk_wo_iff (by omega)).mpr c8)]
        refine mj_two.ms (i8.1 c8) ?_
        rw [if_neg (show ¬ (1 : Int32) = 0 by decide), mj_id]
        exact mj_TL.bo ((mj_ear hs hd c8 B bc bX bM TX h9 TM).cons (fun a c R => R.L d33 L))
      · rw [if_neg (fun z => c8 ((mk_wo_iff (by omega)).mp z))]
        refine mj_two.ms (i8.2 c8) ?_
        rw [if_pos rfl]
        refine mj_two.xs gw ?_
        by_cases c9 : mk_isw s b 9
        · rw [if_pos ((mk_wo_iff (by omega)).mpr c9)]
          refine mj_two.ms (i9.1 c9) ?_
          rw [if_neg (show ¬ (1 : Int32) = 0 by decide), mj_id]
          exact mj_TL.bo ((mj_clash hs hd c9 B bc bX bM TX h9 TM).cons (fun a c R => R.L d33 L))
        · rw [if_neg (fun z => c9 ((mk_wo_iff (by omega)).mp z))]
          refine mj_two.ms (i9.2 c9) ?_
          rw [if_pos rfl]
          refine mj_two.xs gw ?_
          by_cases cA : mk_isw s b 10
          · rw [if_pos ((mk_wo_iff (by omega)).mpr cA)]
            refine mj_two.ms (iA.1 cA) ?_
            rw [if_neg (show ¬ (1 : Int32) = 0 by decide), mj_id]
            exact mj_TL.bo (mv_worth hs hd cA B bc bX bM TX h9 TM L)
          · rw [if_neg (fun z => cA ((mk_wo_iff (by omega)).mp z))]
            refine mj_two.ms (iA.2 cA) ?_
            rw [if_pos rfl, mj_id]
            refine mj_two.x (mx_wrong (k := 1) TX h9) (fun v1 ⟨w1, w2⟩ => ?_)
            obtain ⟨v2, e2, w3, w4⟩ := mi_fails (k := 1) TM
            rw [w1]
            refine mj_two.xs mk_bo0 ?_
            refine ⟨(0, v1.2), v2, rfl, e2, Or.inl ⟨_, mj_fv_nz (k := 1) (b := b) (by omega) (by omega) (by omega), rfl, w3, w2.2.2, w4.2.2, w2.tx, w4.ty⟩⟩
/-- both have read all: a fault, or a town -/
def mj_TT (d : Nat) (hX hM : mm_H) (a c : Int32 × mm_H) : Prop := (∃ f, ¬ f = 0 ∧ a.1 = f ∧ c.1 = 0 ∧ c.2.1 261 9 = f ∧ mj_tx 15 d hX a.2 ∧ mj_ty 282 hM c.2) ∨ (a.1 = 0 ∧ c.1 = 1 ∧ mj_tx 15 d hX a.2 ∧ mj_ty 282 hM c.2 ∧ ∃ (A : mk_A) (nP nS : Nat → Nat → Nat) (E : mk_E), mj_BT A nP nS ∧ mj_BX A nP nS d a.2 ∧ mj_BM A nP nS c.2 ∧ mv_LE d E a.2 c.2)
theorem mj_tlines {A : mk_A} {E : mk_E} {nP nS : Nat → Nat → Nat} {s : mk_S} {b d : Nat} {hX hM : mm_H} (hs : mk_sgs s) (hd : d = 79 ∨ d = 96) (B : mj_BT A nP nS) (bc : A 263 3 ≤ b) (bX : mj_BX A nP nS d hX) (bM : mj_BM A nP nS hM) (TX : mk_TKX s b hX) (h9 : hX.1 33 9 = 0) (TM : mk_TKM s b hM) (L : mv_LE d E hX hM) : mj_two (mm_while (σ := (Int32 × mm_H)) (ρ := (Int32 × mm_H)) (fun s5 => if 1000 < s5.1 then (some (Sum.inr (0, s5.2))) else (if (s5.2.1 33 4) = 1 then (some (Sum.inr (0, s5.2))) else ((f_Tr_readLine d s5.2).bind fun v9 => if v9.1 = 0 then (some (Sum.inr ((v9.2.1 33 9), v9.2))) else (mm_let (s5.1 + 1) fun y10 => some (Sum.inl (y10, v9.2)))))) (0, hX)) (mm_while (σ := mm_H) (ρ := (Int32 × mm_H)) (fun s24 => if (s24.1 261 6) = 0 then (some (Sum.inr (1, s24))) else ((mj_mline s24).bind fun j29 => if j29.1 = 0 then (some (Sum.inr (0, j29.2))) else (some (Sum.inl j29.2)))) hM) (mj_TT d hX hM) := by
  have s1 := hs.1
  refine mj_two.lp (fun n (x : Int32 × mm_H) (y : mm_H) => ∃ i b A nP nS E, n = s.1 - b ∧ i ≤ b ∧ x.1 = Int32.ofNat i ∧ mj_tx 15 d hX x.2 ∧ mj_ty 282 hM y ∧ mk_TKX s b x.2 ∧ x.2.1 33 9 = 0 ∧ mk_TKM s b y ∧ mj_BT A nP nS ∧ A 263 3 ≤ b ∧ mj_BX A nP nS d x.2 ∧ mj_BM A nP nS y ∧ mv_LE d E x.2 y) (fun n x y hI => ?_) (s.1 - b) _ _ ⟨0, b, A, nP, nS, E, rfl, Nat.zero_le _, rfl, mj_tx.rf, mj_ty.rf, TX, h9, TM, B, bc, bX, bM, L⟩
  obtain ⟨i, b, A, nP, nS, E, en, ib, e1, kx, km, tx, x9, tm, B, bc, bX, bM, L⟩ := hI
  have bl := tx.1
  rw [e1, if_neg (fun z => absurd ((mn_llt (b := 1000) (show i < 2147483648 by omega) (by decide)).mp z) (show ¬ 1000 < i by omega)), tx.2.2.2.2.1, tm.2.2.2.2.2.1]
  by_cases k0 : mk_kd s b = 0
  · rw [if_pos ((mk_kX_eq s b).1.mpr k0), if_pos (by rw [k0]; rfl)]
    exact mj_two.ret (Or.inr ⟨_, _, rfl, rfl, Or.inr ⟨rfl, rfl, kx, km, A, nP, nS, E, B, bX, bM, L⟩⟩)
  · rw [if_neg (fun z => k0 ((mk_kX_eq s b).1.mp z)), if_neg (fun z => k0 ((mn_eql (b := 0) (show mk_kd s b < 4294967296 by have := mk_kd_le s b; omega) (by decide)).mp z))]
    refine mj_two.both (mj_tline hs hd B bc bX bM tx x9 tm L) (fun a c R => ?_)
    rcases R with ⟨f, nz, r1, r2, r3, r4, r5, r6⟩ | ⟨b', A', nP', nS', E', lt, r1, r2, r3, r4, r5, r6, r7, r8, r9, r10, r11, r12⟩
    · rw [r1, r2, if_pos rfl, if_pos rfl, r3]
      exact mj_two.ret (Or.inr ⟨_, _, rfl, rfl, Or.inl ⟨f, nz, rfl, rfl, r4, kx.tr r5, km.tr r6⟩⟩)
    · rw [r1, r2, if_neg (show ¬ (1 : Int32) = 0 by decide), if_neg (show ¬ (1 : Int32) = 0 by decide), show Int32.ofNat i + 1 = Int32.ofNat (i + 1) from mn_addl 1 i]
      have := r5.1
      exact mj_two.xl (mj_two.ret (Or.inl ⟨s.1 - b', _, _, rfl, rfl, ⟨i + 1, b', A', nP', nS', E', rfl, by omega, rfl, kx.tr r3, km.tr r4, r5, r6, r7, r8, r9, r10, r11, r12⟩, by omega⟩))
