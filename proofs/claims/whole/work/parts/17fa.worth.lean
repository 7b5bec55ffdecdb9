/-! town: the law's line -/
def mv_LE (d : Nat) (E : mk_E) (hX hM : mm_H) : Prop := match E with
  | none => hX.1 (d + 14) 2 = 0 ∧ hM.1 278 1 = 1000 ∧ hM.1 279 1 = 1000 ∧ hM.1 261 28 = 1000
  | some f => ∃ (P C : List Int32) (v : mv_e → Int32), (0 < P.length ∧ P.length ≤ 1000 ∧ 0 < C.length ∧ C.length ≤ 1000) ∧ hX.1 (d + 14) 2 = Int32.ofNat P.length ∧ mv_at (hX.1 (d + 15)) 0 P ∧ hM.1 278 1 = 1000 ∧ hM.1 279 1 = Int32.ofNat (1000 + C.length) ∧ mv_at (hM.1 280) 1000 C ∧ mv_X P v 21 ∧ mv_A C 0 v ∧ f = fun c n a hi => v (mv_en c n a hi)
theorem mv_LE.lk {d : Nat} {E : mk_E} {hX gX hM gM : mm_H} (q : mv_LE d E hX hM) (k : mj_lk d hX gX hM gM) : mv_LE d E gX gM := by
  obtain ⟨k1, k2, k3, k4, k5, k6⟩ := k
  unfold mv_LE at q ⊢
  cases E with
  | none =>
    dsimp only at q ⊢
    rw [k1, k3, k4, k6]; exact q
  | some f =>
    dsimp only at q ⊢
    rw [k1, k2, k3, k4, k5]; exact q
def mj_TL (s : mk_S) (b d : Nat) (hX hM : mm_H) (a c : Int32 × mm_H) : Prop := (∃ f, ¬ f = 0 ∧ a.1 = 0 ∧ c.1 = 0 ∧ a.2.1 33 9 = f ∧ c.2.1 261 9 = f ∧ mj_tx 15 d hX a.2 ∧ mj_ty 282 hM c.2) ∨ (∃ (b' : Nat) (A' : mk_A) (nP' nS' : Nat → Nat → Nat) (E' : mk_E), b < b' ∧ a.1 = 1 ∧ c.1 = 1 ∧ mj_tx 15 d hX a.2 ∧ mj_ty 282 hM c.2 ∧ mk_TKX s b' a.2 ∧ a.2.1 33 9 = 0 ∧ mk_TKM s b' c.2 ∧ mj_BT A' nP' nS' ∧ A' 263 3 ≤ b' ∧ mj_BX A' nP' nS' d a.2 ∧ mj_BM A' nP' nS' c.2 ∧ mv_LE d E' a.2 c.2)
theorem mj_TR.L {s : mk_S} {b d : Nat} {hX hM : mm_H} {a c : Int32 × mm_H} {E : mk_E} (hd : 33 < d) (R : mj_TR s b d hX hM a c) (L : mv_LE d E hX hM) : mj_TL s b d hX hM a c := by
  rcases R with ⟨f, nz, r1, r2, r3, r4, r5, r6⟩ | ⟨b', A', nP', nS', lt, r1, r2, r3, r4, r5, r6, r7, r8, r9, r10, r11⟩
  · exact Or.inl ⟨f, nz, r1, r2, r3, r4, r5.up (by omega), r6.up (by omega)⟩
  · exact Or.inr ⟨b', A', nP', nS', E, lt, r1, r2, r3.up (by omega), r4.up (by omega), r5, r6, r7, r8, r9, r10, r11, L.lk (mj_lk.of hd r3 r4)⟩
theorem mv_kx.tx {d n : Nat} {h h' : mm_H} (k : mv_kx d n h h') : mj_tx 15 d h h' := ⟨k.1.mono (fun c z => by omega), k.2.1⟩
theorem mv_ky.ty {K1 K2 m : Nat} {h h' : mm_H} (k : mv_ky K1 K2 m h h') : mj_ty 282 h h' := ⟨k.1.mono (fun c z => by omega), fun j n1 n2 n3 n4 n5 n6 n7 => k.2.1 j n1 n2 n3 n4 n5 (fun z => by have := n6 z; omega) n7, fun c j c1 c2 hj => by
  by_cases e : c = 280
  · subst e
    have : j < 1000 := hj
    exact k.2.2.1 j (by omega)
  · rw [k.1.e1 (by omega)], fun c j c1 c2 _ => by rw [k.1.e2 (by omega)]⟩
theorem mv_worth {A : mk_A} {E : mk_E} {nP nS : Nat → Nat → Nat} {s : mk_S} {b d : Nat} {hX hM : mm_H} (hs : mk_sgs s) (hd : d = 79 ∨ d = 96) (w : mk_isw s b 10) (B : mj_BT A nP nS) (bc : A 263 3 ≤ b) (bX : mj_BX A nP nS d hX) (bM : mj_BM A nP nS hM) (TX : mk_TKX s b hX) (h9 : hX.1 33 9 = 0) (TM : mk_TKM s b hM) (L : mv_LE d E hX hM) : mj_two (f_Tr_readWorth d hX) (f_M_readsWorth hM) (mj_TL s b d hX hM) := by
  have td : mm_tg d = 7 := (mk_tt hd).1
  have s1 := hs.1
  have bl := TX.1
  have d33 : 33 < d := by omega
  have bs := (mk_kd_1 w.1).1
  unfold f_Tr_readWorth f_M_readsWorth
  rw [if_pos td]
  cases hE : E with
  | some f =>
    rw [hE] at L
    obtain ⟨P, C, v, ⟨p1, p2, p3, p4⟩, l1, l2, l3, l4, l5⟩ := L
    rw [l1, if_neg (fun z => absurd ((mn_lel (b := 0) (show P.length < 2147483648 by omega) (by decide)).mp z) (show ¬ P.length ≤ 0 by omega)), l3, l4, if_neg (fun z => absurd ((mn_lel (b := 1000) (show 1000 + C.length < 2147483648 by omega) (by decide)).mp z) (show ¬ 1000 + C.length ≤ 1000 by omega))]
    refine mj_two.x (mx_wrong (k := 3) TX h9) (fun v1 ⟨w1, w2⟩ => ?_)
    refine mj_two.m (mi_fails (k := 3) TM) (fun v2 ⟨w3, w4⟩ => ?_)
    rw [w1, w3]
    exact mj_two.xs mk_bo0 (mj_two.ms mk_bo0 (mj_two.ret (Or.inl ⟨_, mj_fv_nz (k := 3) (b := b) (by omega) (by omega) (by omega), rfl, rfl, w2.2.2, w4.2.2, w2.tx, w4.ty⟩)))
  | none =>
    rw [hE] at L
    obtain ⟨l1, l2, l3, l4⟩ := L
    rw [l1, if_pos (show (0 : Int32) ≤ 0 by decide), l2, l3, if_pos (show (1000 : Int32) ≤ 1000 by decide)]
    refine mj_two.x (mx_ttake hs TX) (fun g1 ⟨x1, x2⟩ => ?_)
    refine mj_two.m (mi_ttake hs TM) (fun h2 ⟨y1, y2⟩ => ?_)
    have en := mk_en_lt bs
    have nt := mk_ntk_le (s := s) (b := b) bl
    generalize mk_ntk s b = b1 at *
    refine mj_two.ml ?_
    have e28 : h2.1 261 28 = 1000 := (y1.2 28 (by omega) (by omega) (by omega) (by omega)).trans l4
    rw [e28, mv_reads]
    have ty4 : mj_ty 282 hM (mm_pI (mm_pI h2 278 1 1000) 282 0 ((0 : Int32) &&& 1)) := (y1.ty.tr (mj_ty.p ⟨by omega, by omega⟩ (show 1 ≤ 1 by omega))).tr (mj_ty.p ⟨by omega, by omega⟩ (show 0 ≤ 0 by omega))
    have TM4 : mk_TKM s b1 (mm_pI (mm_pI h2 278 1 1000) 282 0 ((0 : Int32) &&& 1)) := (y2.cell ⟨by omega, by omega⟩).cell ⟨by omega, by omega⟩
    have bM4 : mj_BM A nP nS (mm_pI (mm_pI h2 278 1 1000) 282 0 ((0 : Int32) &&& 1)) := ((bM.ch y1.1 (fun j z => by omega)).ch (mk_ch.pI (D := fun c => c = 278) rfl) (fun j z => by omega)).ch (mk_ch.pI (D := fun c => c = 282) rfl) (fun j z => by omega)
    have e8 : (mm_pI (mm_pI h2 278 1 1000) 282 0 ((0 : Int32) &&& 1)).1 278 1 = 1000 := by rw [mp_I1, if_neg (by omega), mp_I1, if_pos ⟨rfl, rfl⟩]
    have e28' : (mm_pI (mm_pI h2 278 1 1000) 282 0 ((0 : Int32) &&& 1)).1 261 28 = 1000 := by rw [mp_I1, if_neg (by omega), mp_I1, if_neg (by omega)]; exact e28
    have e82 : (mm_pI (mm_pI h2 278 1 1000) 282 0 ((0 : Int32) &&& 1)).1 282 0 = 0 := by rw [mp_I1, if_pos ⟨rfl, rfl⟩]; rfl
    revert ty4 TM4 bM4 e8 e28' e82
    generalize mm_pI (mm_pI h2 278 1 1000) 282 0 ((0 : Int32) &&& 1) = h4
    intro ty4 TM4 bM4 e8 e28' e82
    have bX1 := bX.cr x1.1 (fun j z => by omega)
    have Z : mv_Z s d b1 0 0 g1 h4 := ⟨x2, x1.2.2.trans h9, TM4, by rw [x1.1.e1 (c := d + 14) (by omega)]; exact l1, Nat.zero_le _, e28', Nat.zero_le _⟩
    obtain ⟨a, ea, r⟩ := mv_alls (rp := f_La_readPart_n 8) (k := 0) hs hd (by omega) (mv_parts hs hd 8 0 (by omega) (by omega)) b1 0 0 g1 h4 Z rfl e82
    refine mj_two.xs (show f_La_readAll (d + 14) 0 g1 = some a from ea) ?_
    rcases r with ⟨a0, f, c, nz, q2, q3, q4, q5, q6⟩ | ⟨a1, y, q1, b2, P, C, h5, lt, ey, Z5, lP, lC, pP, pC, kx, ky, aP, aC, ⟨_, v, sX, sA⟩, en5⟩
    · rw [if_pos a0]
      refine mj_two.ms (show mm_while mv_R (0, 1, h4) = some (0, c) from q2) ?_
      rw [if_pos rfl]
      exact mj_two.ret (Or.inl ⟨f, nz, rfl, rfl, q3, q4, x1.tx.tr q5.tx, ty4.tr q6.ty⟩)
    · rw [if_neg (by rw [a1]; decide)]
      rw [ey] at q1
      have b2l := Z5.1.1
      have bX5 := bX1.cr kx.1 (fun j z => by omega)
      have bM5 := bM4.ch ky.1 (fun j z => by omega)
      have tx5 : mj_tx 15 d hX a.2 := x1.tx.tr kx.tx
      have ty5 : mj_ty 282 hM h5 := ty4.tr ky.ty
      cases c59 : mk_iss s b2 59
      · obtain ⟨c, c1, c2⟩ := mv_fail (k := 0) hs (by omega) Z5.2.2.1 en5 (Or.inl rfl) (fun _ => c59)
        refine mj_two.x (mx_takeSign0 (c := 59) hs Z5.1 (by decide) Z5.2.1 c59) (fun v6 ⟨w1, w2⟩ => ?_)
        rw [w1, if_pos rfl]
        refine mj_two.ms (show mm_while mv_R (0, 1, h4) = some (0, c) from q1.trans c1) ?_
        rw [if_pos rfl]
        exact mj_two.ret (Or.inl ⟨_, mj_fv_nz (k := 1) (b := b2) (by omega) (by omega) (by omega), rfl, rfl, w2.2.2, c2.2.2, tx5.tr w2.tx, ty5.tr c2.ty⟩)
      · obtain ⟨c, c1, c2⟩ := mv_fin hs Z5.2.2.1 en5 c59
        refine mj_two.x (mx_takeSign1 (c := 59) hs Z5.1 (by decide) c59) (fun v6 ⟨w1, w2, w3⟩ => ?_)
        rw [w1, if_neg (show ¬ (1 : Int32) = 0 by decide)]
        refine mj_two.ms (show mm_while mv_R (0, 1, h4) = some (1, c) from q1.trans c1) ?_
        rw [if_neg (show ¬ (1 : Int32) = 0 by decide)]
        refine mj_two.ml ?_
        have bs5 := mv_iss_b c59
        have en6 := mk_en_lt bs5
        have nt6 := mk_ntk_le (s := s) (b := b2) b2l
        have v28 : c.1 261 28 = Int32.ofNat (1000 + C.length) := by
          rw [c2.1.2 28 (by omega) (by omega) (by omega) (by omega), Z5.2.2.2.2.2.1, show 0 + C.length = C.length by omega]
        dsimp only
        rw [v28]
        have n5 := Z5.2.2.2.2.1
        have m5 := Z5.2.2.2.2.2.2
        refine mj_two.ret (Or.inr ⟨mk_ntk s b2, A, nP, nS, some (fun c n a hi => v (mv_en c n a hi)), by omega, rfl, rfl, tx5.tr w2.tx, (ty5.tr c2.1.ty).tr (mj_ty.p ⟨by omega, by omega⟩ (show 1 ≤ 1 by omega)), w3, w2.2.2.trans Z5.2.1, c2.2.cell ⟨by omega, by omega⟩, B, by omega, bX5.cr w2.1 (fun j z => by omega), (bM5.ch c2.1.1 (fun j z => by omega)).ch (mk_ch.pI (D := fun c => c = 279) rfl) (fun j z => by omega), P, C, v, ⟨pP, by omega, pC, by omega⟩, ?_, ?_, ?_, ?_, ?_, sX, sA, rfl⟩)
        · dsimp only
          rw [w2.1.e1 (c := d + 14) (by omega), Z5.2.2.2.1, show 0 + P.length = P.length by omega]
        · dsimp only
          rw [w2.1.e1 (c := d + 15) (by omega)]; exact aP
        · dsimp only
          rw [mp_I1, if_neg (by omega), c2.1.1.e1 (c := 278) (by omega), ky.1.e1 (c := 278) (by omega)]; exact e8
        · dsimp only
          rw [mp_I1, if_pos ⟨rfl, rfl⟩]
        · refine mv_at.cg aC (fun j j1 j2 => ?_)
          dsimp only
          rw [mp_I1, if_neg (by omega), c2.1.1.e1 (c := 280) (by omega)]
