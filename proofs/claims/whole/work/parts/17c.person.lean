/-! town: a person's line, both sides -/
theorem mj_two.mu {α β β' β'' : Type} {o : Option β''} {f : β'' → Option β'} {g : β' → Option β} {oX : Option α} {R : α → β → Prop} (h : mj_two oX ((o.bind f).bind g) R) : mj_two oX (o.bind fun x => (f x).bind g) R := by
  rw [← Option.bind_assoc]; exact h
theorem mj_kind {s : mk_S} {b : Nat} {hM : mm_H} (TM : mk_TKM s b hM) : (∃ k, k ≤ 3 ∧ f_Tr_kindOf (mk_wo s b) = some (Int32.ofNat k) ∧ ((f_M_isWord (8740238 : Int64) hM).bind fun v12 => (if v12 = 0 then ((f_M_isWord (108802051 : Int64) hM).bind fun v16 => if v16 = 0 then ((f_M_isWord (82410 : Int64) hM).bind fun v18 => if v18 = 0 then ((f_M_isWord (239329775 : Int64) hM).bind fun v20 => if v20 = 0 then (some (-1)) else (some 3)) else (some 2)) else (some 1)) else (some 0) : Option Int32)) = some (Int32.ofNat k) ∧ b < s.1) ∨ (f_Tr_kindOf (mk_wo s b) = some (-1) ∧ ((f_M_isWord (8740238 : Int64) hM).bind fun v12 => (if v12 = 0 then ((f_M_isWord (108802051 : Int64) hM).bind fun v16 => if v16 = 0 then ((f_M_isWord (82410 : Int64) hM).bind fun v18 => if v18 = 0 then ((f_M_isWord (239329775 : Int64) hM).bind fun v20 => if v20 = 0 then (some (-1)) else (some 3)) else (some 2)) else (some 1)) else (some 0) : Option Int32)) = some (-1)) := by
  have ok : mm_okW (mk_wo s b) = true := by
    cases e : mk_wo s b with
    | none => rfl
    | some i => exact decide_eq_true (mk_wo_some.mp e).1
  unfold f_Tr_kindOf
  rw [if_pos ok]
  by_cases w0 : ∃ k, k < 4 ∧ mk_isw s b (15 + k)
  · left
    obtain ⟨k, hk, w⟩ := w0
    have wo : mk_wo s b = some (15 + k) := (mk_wo_iff (by omega)).mpr w
    have iw : ∀ e, e < 4 → f_M_isWord (mk_k27 (15 + e)) hM = some (if e = k then 1 else 0) := fun e he => by
      by_cases c : e = k
      · rw [if_pos c, c]; exact (mi_isWord TM (by omega)).1 w
      · rw [if_neg c]; exact (mi_isWord TM (by omega)).2 (fun z => c (by have := mk_isw_inj (by omega) (by omega) z w; omega))
    have i0 : f_M_isWord 8740238 hM = some (if 0 = k then 1 else 0) := iw 0 (by omega)
    have i1 : f_M_isWord 108802051 hM = some (if 1 = k then 1 else 0) := iw 1 (by omega)
    have i2 : f_M_isWord 82410 hM = some (if 2 = k then 1 else 0) := iw 2 (by omega)
    have i3 : f_M_isWord 239329775 hM = some (if 3 = k then 1 else 0) := iw 3 (by omega)
    have hk' : k = 0 ∨ k = 1 ∨ k = 2 ∨ k = 3 := by omega
    refine ⟨k, by omega, ?_, ?_, (mk_kd_1 w.1).1⟩
    · rw [wo]
      rcases hk' with rfl | rfl | rfl | rfl
      · exact if_pos rfl
      · rw [if_neg (by decide)]; exact if_pos rfl
      · rw [if_neg (by decide), if_neg (by decide)]; exact if_pos rfl
      · rw [if_neg (by decide), if_neg (by decide), if_neg (by decide)]; exact if_pos rfl
    · rw [mk_bs i0]
      rcases hk' with rfl | rfl | rfl | rfl
      · exact if_neg (by decide)
      · rw [if_pos (by decide), mk_bs i1]; exact if_neg (by decide)
      · rw [if_pos (by decide), mk_bs i1, if_pos (by decide), mk_bs i2]; exact if_neg (by decide)
      · rw [if_pos (by decide), mk_bs i1, if_pos (by decide), mk_bs i2, if_pos (by decide), mk_bs i3]; exact if_neg (by decide)
  · right
    have no : ∀ e, e < 4 → ¬ mk_isw s b (15 + e) := fun e he z => w0 ⟨e, he, z⟩
    have i0 : f_M_isWord 8740238 hM = some 0 := (mi_isWord (i := 15) TM (by omega)).2 (no 0 (by omega))
    have i1 : f_M_isWord 108802051 hM = some 0 := (mi_isWord (i := 16) TM (by omega)).2 (no 1 (by omega))
    have i2 : f_M_isWord 82410 hM = some 0 := (mi_isWord (i := 17) TM (by omega)).2 (no 2 (by omega))
    have i3 : f_M_isWord 239329775 hM = some 0 := (mi_isWord (i := 18) TM (by omega)).2 (no 3 (by omega))
    refine ⟨?_, ?_⟩
    · rw [if_neg (fun z => no 0 (by omega) ((mk_wo_iff (by omega)).mp z)), if_neg (fun z => no 1 (by omega) ((mk_wo_iff (by omega)).mp z)), if_neg (fun z => no 2 (by omega) ((mk_wo_iff (by omega)).mp z)), if_neg (fun z => no 3 (by omega) ((mk_wo_iff (by omega)).mp z))]
    · rw [mk_bs i0, if_pos rfl, mk_bs i1, if_pos rfl, mk_bs i2, if_pos rfl, mk_bs i3]; exact if_pos rfl
theorem mj_person {A : mk_A} {nP nS : Nat → Nat → Nat} {s : mk_S} {b d : Nat} {hX hM : mm_H} (hs : mk_sgs s) (hd : d = 79 ∨ d = 96) (B : mj_BT A nP nS) (bc : A 263 3 ≤ b) (bX : mj_BX A nP nS d hX) (bM : mj_BM A nP nS hM) (TX : mk_TKX s b hX) (h9 : hX.1 33 9 = 0) (TM : mk_TKM s b hM) : mj_two (f_Tr_readPerson d hX) (f_M_readsPerson hM) (mj_TR s b d hX hM) := by
  have td : mm_tg d = 7 := (mk_tt hd).1
  have s1 := hs.1
  have bl := TX.1
  have hP := B.T.1.1
  have d33 : 33 < d := by omega
  unfold f_Tr_readPerson f_M_readsPerson
  rw [if_pos td]
  refine mj_two.xl (mj_two.ml ?_)
  rw [bX.c0, bM.c4, mn_ladd 6]
  by_cases P6 : A 263 0 = 6
  · rw [if_neg (fun z => absurd ((mn_ltl (b := 6) (show A 263 0 < 2147483648 by omega) (by decide)).mp z) (show ¬ A 263 0 < 6 by omega)), if_pos (by rw [P6]; rfl)]
    refine mj_two.x (mx_wrong (k := 5) TX h9) (fun v1 ⟨w1, w2⟩ => ?_)
    refine mj_two.m (mi_fails (k := 5) TM) (fun v2 ⟨w3, w4⟩ => ?_)
    rw [w1, w3]
    exact mj_two.xs mk_bo0 (mj_two.ms mk_bo0 (mj_two.ret (mj_TR.f (mj_fv_nz (k := 5) (b := b) (by omega) (by omega) (by omega)) mj_tx.rf mj_ty.rf w2 w4)))
  · have P5 : A 263 0 < 6 := by omega
    rw [if_pos ((mn_ltl (b := 6) (show A 263 0 < 2147483648 by omega) (by decide)).mpr P5), if_neg (fun z => by have := (mn_eql (b := 12) (show 6 + A 263 0 < 4294967296 by omega) (by decide)).mp z; have : 6 + A 263 0 = 12 := this; omega)]
    have ixX : mm_ix (Int32.ofNat (A 263 0)) 6 = some (A 263 0) := mn_ix (by omega) (by omega)
    have ixM : mm_ix (Int32.ofNat (OfNat.ofNat 6 + A 263 0)) 12 = some (6 + A 263 0) := mn_ix (show 6 + A 263 0 < 12 by omega) (by omega)
    refine mj_two.x (mx_ttake hs TX) (fun v4 ⟨x1, x2⟩ => ?_)
    refine mj_two.m (mi_ttake hs TM) (fun w4 ⟨y1, y2⟩ => ?_)
    have nt := mk_ntk_le (s := s) (b := b) bl
    have en := (mk_en_le (s := s) (b := b) bl).1
    generalize mk_ntk s b = b1 at *
    refine mj_two.xs ixX (mj_two.xl ?_)
    have kx7 : mj_tx 13 d hX (mm_pL v4 (d + 1) (A 263 0) (v4.2.1 33 6)) := x1.tx.tr (mj_tx.pL ⟨by omega, by omega⟩)
    have bX7 : mj_BX A nP nS d (mm_pL v4 (d + 1) (A 263 0) (v4.2.1 33 6)) := (bX.cr x1.1 (fun j z => by omega)).wL (Or.inl ⟨rfl, Nat.le_refl _⟩)
    have TX7 : mk_TKX s b1 (mm_pL v4 (d + 1) (A 263 0) (v4.2.1 33 6)) := x2.cellL (by omega)
    have nm7 : mk_kd s b1 = 1 → (mm_pL v4 (d + 1) (A 263 0) (v4.2.1 33 6)).2.1 (d + 1) (A 263 0) = Int64.ofNat (mk_c32 (mk_wd s b1)) := fun k => by rw [mp_L2, if_pos ⟨rfl, rfl⟩]; exact x2.2.2.2.2.2.2.1 k
    have x97 : (mm_pL v4 (d + 1) (A 263 0) (v4.2.1 33 6)).1 33 9 = 0 := x1.2.2.trans h9
    revert kx7 bX7 TX7 nm7 x97
    generalize mm_pL v4 (d + 1) (A 263 0) (v4.2.1 33 6) = h7
    intro kx7 bX7 TX7 nm7 x97
    have ky4 : mj_ty 277 hM w4 := y1.ty
    have bM4 := bM.ch y1.1 (fun j z => by omega)
    refine mj_two.both (mj_new hs td B bX7.NX bM4.NM TX7 x97 y2) (fun a c R => ?_)
    obtain ⟨a1, a2⟩ := a
    rcases R with ⟨f, nz, r1, r2, r3, r4⟩ | ⟨isn, r1, ⟨r2, r3⟩, rfl⟩
    · obtain ⟨c1, c2⟩ := c
      obtain rfl : a1 = 0 := r1
      obtain rfl : c1 = 0 := r2
      exact mj_two.ret (mj_TR.f nz kx7 ky4 r3 r4)
    · obtain rfl : a1 = 1 := r1
      rw [if_neg (show ¬ (1 : Int32) = 0 by decide), if_neg (show ¬ (1 : Int32) = 0 by decide)]
      have bs1 := (mk_kd_1 isn.1).1
      have en1 := mk_en_lt bs1
      have nt1 := mk_ntk_le (s := s) (b := b1) x2.1
      have wnm : mk_nm (mk_wd s b1) := mk_nm_wd isn.1
      have nmM : w4.2.1 261 7 = Int64.ofNat (mk_c27 (mk_wd s b1)) := y2.2.2.2.2.2.2.1 isn.1
      have kx10 := kx7.tr r2.tx
      have bX10 := bX7.cr r2.1 (fun j z => by omega)
      have nm10 : a2.2.1 (d + 1) (A 263 0) = Int64.ofNat (mk_c32 (mk_wd s b1)) := by rw [r2.1.e2 (by omega)]; exact nm7 isn.1
      have x910 : a2.1 33 9 = 0 := r2.2.2.trans x97
      refine mj_two.ml ?_
      dsimp only
      rw [nmM]
      refine mj_two.m (mi_ttake hs y2) (fun w10 ⟨z1, z2⟩ => ?_)
      generalize mk_wd s b1 = nw at *
      generalize mk_ntk s b1 = b2 at *
      have ky10 := ky4.tr z1.ty
      have bM10 := bM4.ch z1.1 (fun j z => by omega)
      refine mj_two.xs (mx_gW r3) ?_
      have b2l := r3.1
      have far : ∀ (h : mm_H) (c j : Nat) (z : Int32), (mm_pI h c j z).1 c j = z := fun h c j z => by rw [mp_I1, if_pos ⟨rfl, rfl⟩]
      rcases mj_kind z2 with ⟨kd, k3, kX, kM, bs2⟩ | ⟨kX, kM⟩
      · refine mj_two.xs kX ?_
        refine mj_two.mu (mj_two.ms kM ?_)
        refine mj_two.xs ixX (mj_two.xl (mj_two.xs ixX ?_))
        refine mj_two.ms ixM (mj_two.ml (mj_two.ms ixM ?_))
        rw [far, far, if_neg (mn_nn1 (by omega)), if_pos (mj_nn0 (by omega))]
        have kx17 : mj_tx 13 d hX (mm_pI a2 (d + 2) (A 263 0) (Int32.ofNat kd)) := kx10.tr (mj_tx.p ⟨by omega, by omega⟩ d33)
        have bX17 : mj_BX A nP nS d (mm_pI a2 (d + 2) (A 263 0) (Int32.ofNat kd)) := bX10.w (Or.inl ⟨Or.inl rfl, Nat.le_refl _⟩)
        have TX17 : mk_TKX s b2 (mm_pI a2 (d + 2) (A 263 0) (Int32.ofNat kd)) := r3.cell ⟨by omega, by omega⟩
        have f17 : (mm_pI a2 (d + 2) (A 263 0) (Int32.ofNat kd)).1 (d + 2) (A 263 0) = Int32.ofNat kd := far _ _ _ _
        have n17 : (mm_pI a2 (d + 2) (A 263 0) (Int32.ofNat kd)).2.1 (d + 1) (A 263 0) = Int64.ofNat (mk_c32 nw) := nm10
        have x917 : (mm_pI a2 (d + 2) (A 263 0) (Int32.ofNat kd)).1 33 9 = 0 := by rw [mp_I1, if_neg (by omega)]; exact x910
        revert kx17 bX17 TX17 f17 n17 x917
        generalize mm_pI a2 (d + 2) (A 263 0) (Int32.ofNat kd) = h17
        intro kx17 bX17 TX17 f17 n17 x917
        have ky35 : mj_ty 277 hM (mm_pI w10 266 (6 + A 263 0) (Int32.ofNat kd)) := ky10.tr (mj_ty.p ⟨by omega, by omega⟩ (show 6 ≤ 6 + A 263 0 by omega))
        have bM35 : mj_BM A nP nS (mm_pI w10 266 (6 + A 263 0) (Int32.ofNat kd)) := bM10.w (Or.inl ⟨⟨by omega, by omega⟩, Nat.le_refl _⟩)
        have TM35 : mk_TKM s b2 (mm_pI w10 266 (6 + A 263 0) (Int32.ofNat kd)) := z2.cell ⟨by omega, by omega⟩
        have g35 : (mm_pI w10 266 (6 + A 263 0) (Int32.ofNat kd)).1 266 (6 + A 263 0) = Int32.ofNat kd := far _ _ _ _
        revert ky35 bM35 TM35 g35
        generalize mm_pI w10 266 (6 + A 263 0) (Int32.ofNat kd) = h35
        intro ky35 bM35 TM35 g35
        refine mj_two.x (mx_ttake hs TX17) (fun v22 ⟨o1, o2⟩ => ?_)
        refine mj_two.m (mi_ttake hs TM35) (fun w40 ⟨p1, p2⟩ => ?_)
        have nt2 := mk_ntk_le (s := s) (b := b2) b2l
        have en2 := (mk_en_le (s := s) (b := b2) b2l).1
        generalize mk_ntk s b2 = b3 at *
        have kx22 := kx17.tr o1.tx
        have bX22 := bX17.cr o1.1 (fun j z => by omega)
        have f22 : v22.1 (d + 2) (A 263 0) = Int32.ofNat kd := by rw [o1.1.e1 (by omega)]; exact f17
        have n22 : v22.2.1 (d + 1) (A 263 0) = Int64.ofNat (mk_c32 nw) := by rw [o1.1.e2 (by omega)]; exact n17
        have x922 : v22.1 33 9 = 0 := o1.2.2.trans x917
        have ky40 := ky35.tr p1.ty
        have bM40 := bM35.ch p1.1 (fun j z => by omega)
        have g40 : w40.1 266 (6 + A 263 0) = Int32.ofNat kd := by rw [p1.1.e1 (by omega)]; exact g35
        refine mj_two.xu (mj_two.both (mj_wn (i := 1) (lo := 0) (hi := 9) hs (by omega) (by omega) (by omega) o2 x922 p2) (fun a c R => ?_))
        obtain ⟨a1, a2'⟩ := a
        obtain ⟨c1, c2⟩ := c
        rcases R with ⟨f, nz, q1, q2, q3, q4⟩ | ⟨b4, rk, l4, _, rk9, q1, q2, q3, q4, q5, q6⟩
        · obtain rfl : a1 = -1 := q1
          obtain rfl : c1 = 0 := q2
          refine mj_two.xs ixX (mj_two.xl (mj_two.xs ixX ?_))
          dsimp only
          rw [far, if_pos rfl, if_pos rfl]
          refine mj_two.ret (Or.inl ⟨f, nz, rfl, rfl, ?_, q4.2.2, (kx22.tr q3.tx).tr (mj_tx.p ⟨by omega, by omega⟩ d33), ky40.tr q4.ty⟩)
          rw [mp_I1, if_neg (by omega)]; exact q3.2.2
        · obtain rfl : a1 = Int32.ofNat rk := q1
          obtain rfl : c1 = 1 := q4
          refine mj_two.xs ixX (mj_two.xl (mj_two.xs ixX ?_))
          dsimp only
          rw [far, if_neg (mn_nn1 (by omega)), if_neg (show ¬ (1 : Int32) = 0 by decide), q5.2.2]
          refine mj_two.ms ixM (mj_two.ml ?_)
          have kx34 : mj_tx 13 d hX (mm_pI a2' (d + 3) (A 263 0) (Int32.ofNat rk)) := (kx22.tr q2.tx).tr (mj_tx.p ⟨by omega, by omega⟩ d33)
          have bX34 : mj_BX A nP nS d (mm_pI a2' (d + 3) (A 263 0) (Int32.ofNat rk)) := (bX22.cr q2.1 (fun j z => by omega)).w (Or.inl ⟨Or.inr (Or.inl rfl), Nat.le_refl _⟩)
          have TX34 : mk_TKX s b4 (mm_pI a2' (d + 3) (A 263 0) (Int32.ofNat rk)) := q3.cell ⟨by omega, by omega⟩
          have f34 : (mm_pI a2' (d + 3) (A 263 0) (Int32.ofNat rk)).1 (d + 2) (A 263 0) = Int32.ofNat kd ∧ (mm_pI a2' (d + 3) (A 263 0) (Int32.ofNat rk)).1 (d + 3) (A 263 0) = Int32.ofNat rk := ⟨by rw [mp_I1, if_neg (by omega), q2.1.e1 (by omega)]; exact f22, far _ _ _ _⟩
          have n34 : (mm_pI a2' (d + 3) (A 263 0) (Int32.ofNat rk)).2.1 (d + 1) (A 263 0) = Int64.ofNat (mk_c32 nw) := by rw [mp_I2, q2.1.e2 (by omega)]; exact n22
          have x934 : (mm_pI a2' (d + 3) (A 263 0) (Int32.ofNat rk)).1 33 9 = 0 := by rw [mp_I1, if_neg (by omega)]; exact q2.2.2.trans x922
          revert kx34 bX34 TX34 f34 n34 x934
          generalize mm_pI a2' (d + 3) (A 263 0) (Int32.ofNat rk) = h34
          intro kx34 bX34 TX34 f34 n34 x934
          have ky45 : mj_ty 277 hM (mm_pI c2 267 (6 + A 263 0) (Int32.ofNat rk)) := (ky40.tr q5.ty).tr (mj_ty.p ⟨by omega, by omega⟩ (show 6 ≤ 6 + A 263 0 by omega))
          have bM45 : mj_BM A nP nS (mm_pI c2 267 (6 + A 263 0) (Int32.ofNat rk)) := (bM40.ch q5.1 (fun j z => by omega)).w (Or.inl ⟨⟨by omega, by omega⟩, Nat.le_refl _⟩)
          have TM45 : mk_TKM s b4 (mm_pI c2 267 (6 + A 263 0) (Int32.ofNat rk)) := q6.cell ⟨by omega, by omega⟩
          have g45 : (mm_pI c2 267 (6 + A 263 0) (Int32.ofNat rk)).1 266 (6 + A 263 0) = Int32.ofNat kd ∧ (mm_pI c2 267 (6 + A 263 0) (Int32.ofNat rk)).1 267 (6 + A 263 0) = Int32.ofNat rk := ⟨by rw [mp_I1, if_neg (by omega), q5.1.e1 (by omega)]; exact g40, far _ _ _ _⟩
          revert ky45 bM45 TM45 g45
          generalize mm_pI c2 267 (6 + A 263 0) (Int32.ofNat rk) = h45
          intro ky45 bM45 TM45 g45
          refine mj_two.xu (mj_two.both (mj_wn (i := 2) (lo := 0) (hi := 999) hs (by omega) (by omega) (by omega) TX34 x934 TM45) (fun a c R => ?_))
          obtain ⟨a1, a3⟩ := a
          obtain ⟨c1, c3⟩ := c
          rcases R with ⟨f, nz, u1, u2, u3, u4⟩ | ⟨b5, tx, l5, _, tx9, u1, u2, u3, u4, u5, u6⟩
          · obtain rfl : a1 = -1 := u1
            obtain rfl : c1 = 0 := u2
            refine mj_two.xs ixX (mj_two.xl (mj_two.xs ixX ?_))
            dsimp only
            rw [far, if_pos rfl, if_pos rfl]
            refine mj_two.ret (Or.inl ⟨f, nz, rfl, rfl, ?_, u4.2.2, (kx34.tr u3.tx).tr (mj_tx.p ⟨by omega, by omega⟩ d33), ky45.tr u4.ty⟩)
            rw [mp_I1, if_neg (by omega)]; exact u3.2.2
          · obtain rfl : a1 = Int32.ofNat tx := u1
            obtain rfl : c1 = 1 := u4
            refine mj_two.xs ixX (mj_two.xl (mj_two.xs ixX ?_))
            dsimp only
            rw [far, if_neg (mn_nn1 (by omega)), if_neg (show ¬ (1 : Int32) = 0 by decide), u5.2.2]
            refine mj_two.ms ixM (mj_two.ml (mj_two.ms ixM (mj_two.ml (mj_two.ml ?_))))
            have kx49 : mj_tx 13 d hX (mm_pI a3 (d + 4) (A 263 0) (Int32.ofNat tx)) := (kx34.tr u2.tx).tr (mj_tx.p ⟨by omega, by omega⟩ d33)
            have bX49 : mj_BX A nP nS d (mm_pI a3 (d + 4) (A 263 0) (Int32.ofNat tx)) := (bX34.cr u2.1 (fun j z => by omega)).w (Or.inl ⟨Or.inr (Or.inr rfl), Nat.le_refl _⟩)
            have TX49 : mk_TKX s b5 (mm_pI a3 (d + 4) (A 263 0) (Int32.ofNat tx)) := u3.cell ⟨by omega, by omega⟩
            have f49 : (mm_pI a3 (d + 4) (A 263 0) (Int32.ofNat tx)).1 (d + 2) (A 263 0) = Int32.ofNat kd ∧ (mm_pI a3 (d + 4) (A 263 0) (Int32.ofNat tx)).1 (d + 3) (A 263 0) = Int32.ofNat rk ∧ (mm_pI a3 (d + 4) (A 263 0) (Int32.ofNat tx)).1 (d + 4) (A 263 0) = Int32.ofNat tx := ⟨by rw [mp_I1, if_neg (by omega), u2.1.e1 (by omega)]; exact f34.1, by rw [mp_I1, if_neg (by omega), u2.1.e1 (by omega)]; exact f34.2, far _ _ _ _⟩
            have n49 : (mm_pI a3 (d + 4) (A 263 0) (Int32.ofNat tx)).2.1 (d + 1) (A 263 0) = Int64.ofNat (mk_c32 nw) := by rw [mp_I2, u2.1.e2 (by omega)]; exact n34
            have x949 : (mm_pI a3 (d + 4) (A 263 0) (Int32.ofNat tx)).1 33 9 = 0 := by rw [mp_I1, if_neg (by omega)]; exact u2.2.2.trans x934
            revert kx49 bX49 TX49 f49 n49 x949
            generalize mm_pI a3 (d + 4) (A 263 0) (Int32.ofNat tx) = h49
            intro kx49 bX49 TX49 f49 n49 x949
            have ky55 : mj_ty 277 hM (mm_pL (mm_pI c3 268 (6 + A 263 0) (Int32.ofNat tx)) 264 (6 + A 263 0) (Int64.ofNat (mk_c27 nw))) := ((ky45.tr u5.ty).tr (mj_ty.p ⟨by omega, by omega⟩ (show 6 ≤ 6 + A 263 0 by omega))).tr (mj_ty.pL ⟨by omega, by omega⟩ (show 6 ≤ 6 + A 263 0 by omega))
            have bM55 : mj_BM A nP nS (mm_pL (mm_pI c3 268 (6 + A 263 0) (Int32.ofNat tx)) 264 (6 + A 263 0) (Int64.ofNat (mk_c27 nw))) := ((bM45.ch u5.1 (fun j z => by omega)).w (Or.inl ⟨⟨by omega, by omega⟩, Nat.le_refl _⟩)).wL (Or.inl ⟨rfl, Nat.le_refl _⟩)
            have TM55 : mk_TKM s b5 (mm_pL (mm_pI c3 268 (6 + A 263 0) (Int32.ofNat tx)) 264 (6 + A 263 0) (Int64.ofNat (mk_c27 nw))) := (u6.cell ⟨by omega, by omega⟩).cellL (by omega)
            have g55 : (mm_pL (mm_pI c3 268 (6 + A 263 0) (Int32.ofNat tx)) 264 (6 + A 263 0) (Int64.ofNat (mk_c27 nw))).1 266 (6 + A 263 0) = Int32.ofNat kd ∧ (mm_pL (mm_pI c3 268 (6 + A 263 0) (Int32.ofNat tx)) 264 (6 + A 263 0) (Int64.ofNat (mk_c27 nw))).1 267 (6 + A 263 0) = Int32.ofNat rk ∧ (mm_pL (mm_pI c3 268 (6 + A 263 0) (Int32.ofNat tx)) 264 (6 + A 263 0) (Int64.ofNat (mk_c27 nw))).1 268 (6 + A 263 0) = Int32.ofNat tx ∧ (mm_pL (mm_pI c3 268 (6 + A 263 0) (Int32.ofNat tx)) 264 (6 + A 263 0) (Int64.ofNat (mk_c27 nw))).2.1 264 (6 + A 263 0) = Int64.ofNat (mk_c27 nw) := by
              refine ⟨?_, ?_, ?_, ?_⟩
              · rw [mp_L1, mp_I1, if_neg (by omega), u5.1.e1 (by omega)]; exact g45.1
              · rw [mp_L1, mp_I1, if_neg (by omega), u5.1.e1 (by omega)]; exact g45.2
              · rw [mp_L1, far]
              · rw [mp_L2, if_pos ⟨rfl, rfl⟩]
            revert ky55 bM55 TM55 g55
            generalize mm_pL (mm_pI c3 268 (6 + A 263 0) (Int32.ofNat tx)) 264 (6 + A 263 0) (Int64.ofNat (mk_c27 nw)) = h55
            intro ky55 bM55 TM55 g55
            rw [bM55.c4, show Int32.ofNat (A 263 0) + 1 = Int32.ofNat (A 263 0 + 1) from mn_addl 1 _]
            have ky57 : mj_ty 277 hM (mm_pI h55 263 4 (Int32.ofNat (A 263 0 + 1))) := ky55.tr (mj_ty.p ⟨by omega, by omega⟩ (show 4 ≤ 4 by omega))
            have bM57 := bM55.addP g55.2.2.2 g55.1 g55.2.1 g55.2.2.1
            have TM57 : mk_TKM s b5 (mm_pI h55 263 4 (Int32.ofNat (A 263 0 + 1))) := TM55.cell ⟨by omega, by omega⟩
            refine mj_two.both (mj_close hs TX49 x949 TM57) (fun a c R => ?_)
            obtain ⟨a1, a4⟩ := a
            obtain ⟨c1, c4⟩ := c
            rcases R with ⟨f, nz, t1, t2, t3, t4⟩ | ⟨lt, t1, t2, ⟨t3, t4⟩, t5, t6⟩
            · obtain rfl : a1 = 0 := t1
              obtain rfl : c1 = 0 := t2
              refine mj_two.ms mk_bo0 ?_
              exact mj_two.ret (mj_TR.f nz kx49 ky57 t3 t4)
            · obtain rfl : a1 = 1 := t1
              obtain rfl : c1 = 1 := t2
              refine mj_two.ms mk_bo1 ?_
              rw [if_neg (show ¬ (1 : Int32) = 0 by decide)]
              refine mj_two.xs ixX ?_
              have F : ∀ c, ¬ c = 33 → a4.1 c = h49.1 c := fun c hc => t3.1.e1 hc
              have bX4 := bX49.cr t3.1 (fun j z => by omega)
              refine mj_two.xs (v := if kd = 3 then (1 : Int32) <<< (Int32.ofNat (A 263 0) &&& 31) else 0) ?_ ?_
              · dsimp only
                rw [F (d + 2) (by omega), f49.1]
                by_cases k3 : kd = 3
                · rw [if_pos (by rw [k3]; rfl), if_pos k3]
                · rw [if_neg (fun z => k3 ((mn_eql (b := 3) (show kd < 4294967296 by omega) (by decide)).mp z)), if_neg k3]
              · dsimp only
                refine mj_two.xl (mj_two.xl ?_)
                have z0 : (mm_pI a4 d 5 (a4.1 d 5 ||| (if kd = 3 then (1 : Int32) <<< (Int32.ofNat (A 263 0) &&& 31) else 0))).1 d 0 = Int32.ofNat (A 263 0) := by rw [mp_I1, if_neg (by omega)]; exact bX4.c0
                rw [z0, show Int32.ofNat (A 263 0) + 1 = Int32.ofNat (A 263 0 + 1) from mn_addl 1 _]
                have bXf := bX4.addP P5 (w := nw) (kd := kd) (rk := rk) (tx := tx) (by rw [t3.1.e2 (by omega)]; exact n49) (by rw [F _ (by omega)]; exact f49.1) (by rw [F _ (by omega)]; exact f49.2.1) (by rw [F _ (by omega)]; exact f49.2.2)
                refine mj_two.ret (Or.inr ⟨mk_ntk s b5, mj_aP A kd rk tx, mj_nn nP (A 263 0) nw, nS, by omega, rfl, rfl, ((kx49.tr t3.tx).tr (mj_tx.p ⟨by omega, by omega⟩ d33)).tr (mj_tx.p ⟨by omega, by omega⟩ d33), ky57.tr t5.ty, (t4.cell ⟨by omega, by omega⟩).cell ⟨by omega, by omega⟩, ?_, t6, B.addP P5 k3 rk9 tx9 wnm, ?_, bXf, bM57.ch t5.1 (fun j z => by omega)⟩)
                · rw [mp_I1, if_neg (by omega), mp_I1, if_neg (by omega)]; exact t3.2.2.trans x949
                · rw [mj_aP_o (by omega) (by omega)]; omega
      · refine mj_two.xs kX (mj_two.xs ixX (mj_two.xl (mj_two.xs ixX ?_)))
        refine mj_two.mu (mj_two.ms kM (mj_two.ms ixM (mj_two.ml (mj_two.ms ixM ?_))))
        rw [far, far, if_pos rfl, if_neg (show ¬ (0 : Int32) ≤ -1 by decide)]
        have TX17 : mk_TKX s b2 (mm_pI a2 (d + 2) (A 263 0) (-1)) := r3.cell ⟨by omega, by omega⟩
        have TM35 : mk_TKM s b2 (mm_pI w10 266 (6 + A 263 0) (-1)) := z2.cell ⟨by omega, by omega⟩
        refine mj_two.x (mx_wrong (k := 1) TX17 (by rw [mp_I1, if_neg (by omega)]; exact x910)) (fun v1 ⟨w1, w2⟩ => ?_)
        refine mj_two.m (mi_fails (k := 1) TM35) (fun v2 ⟨w3, w4⟩ => ?_)
        rw [w1, w3]
        exact mj_two.xs mk_bo0 (mj_two.ms mk_bo0 (mj_two.ret (mj_TR.f (mj_fv_nz (k := 1) (b := b2) (by omega) (by omega) (by omega)) (kx10.tr (mj_tx.p ⟨by omega, by omega⟩ d33)) (ky10.tr (mj_ty.p ⟨by omega, by omega⟩ (show 6 ≤ 6 + A 263 0 by omega))) w2 w4)))
