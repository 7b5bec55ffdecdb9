theorem mj_two.xua {α α1 α2 α3 β : Type} {o : Option α3} {f : α3 → Option α2} {g : α2 → Option α1} {K : α1 → Option α} {oM : Option β} {R : α → β → Prop} (h : mj_two (((o.bind f).bind g).bind K) oM R) : mj_two ((o.bind fun x => (f x).bind g).bind K) oM R := by
  rw [← Option.bind_assoc o f g]; exact h
theorem mj_truth {s : mk_S} {b : Nat} {hM : mm_H} (TM : mk_TKM s b hM) : (∃ k, k ≤ 1 ∧ mk_isw s b (19 + k) ∧ mk_wo s b = some (19 + k) ∧ ((f_M_isWord (407354 : Int64) hM).bind fun v12 => (if v12 = 0 then ((f_M_isWord (3217595 : Int64) hM).bind fun v16 => if v16 = 0 then (some (-1)) else (some 1)) else (some 0) : Option Int32)) = some (Int32.ofNat k)) ∨ (¬ mk_wo s b = some 19 ∧ ¬ mk_wo s b = some 20 ∧ ((f_M_isWord (407354 : Int64) hM).bind fun v12 => (if v12 = 0 then ((f_M_isWord (3217595 : Int64) hM).bind fun v16 => if v16 = 0 then (some (-1)) else (some 1)) else (some 0) : Option Int32)) = some (-1)) := by
  by_cases w0 : mk_isw s b 19
  · left
    have i0 : f_M_isWord 407354 hM = some 1 := (mi_isWord (i := 19) TM (by omega)).1 w0
    exact ⟨0, by omega, w0, (mk_wo_iff (by omega)).mpr w0, (mk_bs i0).trans (if_neg (by decide))⟩
  · have i0 : f_M_isWord 407354 hM = some 0 := (mi_isWord (i := 19) TM (by omega)).2 w0
    by_cases w1 : mk_isw s b 20
    · left
      have i1 : f_M_isWord 3217595 hM = some 1 := (mi_isWord (i := 20) TM (by omega)).1 w1
      refine ⟨1, by omega, w1, (mk_wo_iff (by omega)).mpr w1, (mk_bs i0).trans ?_⟩
      rw [if_pos rfl, mk_bs i1]; exact if_neg (by decide)
    · right
      have i1 : f_M_isWord 3217595 hM = some 0 := (mi_isWord (i := 20) TM (by omega)).2 w1
      refine ⟨fun z => w0 ((mk_wo_iff (by omega)).mp z), fun z => w1 ((mk_wo_iff (by omega)).mp z), (mk_bs i0).trans ?_⟩
      rw [if_pos rfl, mk_bs i1]; exact if_pos rfl
theorem mj_secret {A : mk_A} {nP nS : Nat → Nat → Nat} {s : mk_S} {b d : Nat} {hX hM : mm_H} (hs : mk_sgs s) (hd : d = 79 ∨ d = 96) (B : mj_BT A nP nS) (bc : A 263 3 ≤ b) (bX : mj_BX A nP nS d hX) (bM : mj_BM A nP nS hM) (TX : mk_TKX s b hX) (h9 : hX.1 33 9 = 0) (TM : mk_TKM s b hM) : mj_two (f_Tr_readSecret d hX) (f_M_readsSecret hM) (mj_TR s b d hX hM) := by
  have td : mm_tg d = 7 := (mk_tt hd).1
  have s1 := hs.1
  have bl := TX.1
  have hP := B.T.1.1
  have hS1 := B.T.1.2.1
  have d33 : 33 < d := by omega
  unfold f_Tr_readSecret f_M_readsSecret
  rw [if_pos td]
  refine mj_two.xl (mj_two.ml ?_)
  rw [bX.c6, bM.c5, mn_ladd 10]
  by_cases S10 : A 263 1 = 10
  · rw [if_neg (fun z => absurd ((mn_ltl (b := 10) (show A 263 1 < 2147483648 by omega) (by decide)).mp z) (show ¬ A 263 1 < 10 by omega)), if_pos (by rw [S10]; rfl)]
    refine mj_two.x (mx_wrong (k := 5) TX h9) (fun v1 ⟨w1, w2⟩ => ?_)
    refine mj_two.m (mi_fails (k := 5) TM) (fun v2 ⟨w3, w4⟩ => ?_)
    rw [w1, w3]
    exact mj_two.xs mk_bo0 (mj_two.ms mk_bo0 (mj_two.ret (mj_TR.f (mj_fv_nz (k := 5) (b := b) (by omega) (by omega) (by omega)) mj_tx.rf mj_ty.rf w2 w4)))
  · have S9 : A 263 1 < 10 := by omega
    rw [if_pos ((mn_ltl (b := 10) (show A 263 1 < 2147483648 by omega) (by decide)).mpr S9), if_neg (fun z => by have := (mn_eql (b := 20) (show 10 + A 263 1 < 4294967296 by omega) (by decide)).mp z; have : 10 + A 263 1 = 20 := this; omega)]
    have ixX : mm_ix (Int32.ofNat (A 263 1)) 10 = some (A 263 1) := mn_ix (by omega) (by omega)
    have ixM : mm_ix (Int32.ofNat (OfNat.ofNat 10 + A 263 1)) 20 = some (10 + A 263 1) := mn_ix (show 10 + A 263 1 < 20 by omega) (by omega)
    have far : ∀ (h : mm_H) (c j : Nat) (z : Int32), (mm_pI h c j z).1 c j = z := fun h c j z => by rw [mp_I1, if_pos ⟨rfl, rfl⟩]
    refine mj_two.x (mx_ttake hs TX) (fun v4 ⟨x1, x2⟩ => ?_)
    refine mj_two.m (mi_ttake hs TM) (fun w4 ⟨y1, y2⟩ => ?_)
    have nt := mk_ntk_le (s := s) (b := b) bl
    have en := (mk_en_le (s := s) (b := b) bl).1
    generalize mk_ntk s b = b1 at *
    refine mj_two.xs ixX (mj_two.xl ?_)
    have kx7 : mj_tx 13 d hX (mm_pL v4 (d + 5) (A 263 1) (v4.2.1 33 6)) := x1.tx.tr (mj_tx.pL ⟨by omega, by omega⟩)
    have bX7 : mj_BX A nP nS d (mm_pL v4 (d + 5) (A 263 1) (v4.2.1 33 6)) := (bX.cr x1.1 (fun j z => by omega)).wL (Or.inr ⟨rfl, Nat.le_refl _⟩)
    have TX7 : mk_TKX s b1 (mm_pL v4 (d + 5) (A 263 1) (v4.2.1 33 6)) := x2.cellL (by omega)
    have nm7 : mk_kd s b1 = 1 → (mm_pL v4 (d + 5) (A 263 1) (v4.2.1 33 6)).2.1 (d + 5) (A 263 1) = Int64.ofNat (mk_c32 (mk_wd s b1)) := fun k => by rw [mp_L2, if_pos ⟨rfl, rfl⟩]; exact x2.2.2.2.2.2.2.1 k
    have x97 : (mm_pL v4 (d + 5) (A 263 1) (v4.2.1 33 6)).1 33 9 = 0 := x1.2.2.trans h9
    revert kx7 bX7 TX7 nm7 x97
    generalize mm_pL v4 (d + 5) (A 263 1) (v4.2.1 33 6) = h7
    intro kx7 bX7 TX7 nm7 x97
    have ky4 : mj_ty 277 hM w4 := y1.ty
    have bM4 := bM.ch y1.1 (fun j z => by omega)
    refine mj_two.both (mj_new hs td B bX7.NX bM4.NM TX7 x97 y2) (fun a c R => ?_)
    obtain ⟨a1, a2⟩ := a
    rcases R with ⟨f, nz, r1, r2, r3, r4⟩ | ⟨isn, r1, ⟨r2, r3⟩, rfl⟩
    · obtain ⟨c1, c2⟩ := c
      obtain rfl : a1 = 0 := r1
      obtain rfl : c1 = 0 := r2
      exact mj_two.ret (mj_TR.f nz kx7 ky4 r3 r4)
    · obtain rfl : a1 = 1 := r1
      rw [if_neg (show ¬ (1 : Int32) = 0 by decide), if_neg (show ¬ (1 : Int32) = 0 by decide)]
      have bs1 := (mk_kd_1 isn.1).1
      have en1 := mk_en_lt bs1
      have nt1 := mk_ntk_le (s := s) (b := b1) x2.1
      have wnm : mk_nm (mk_wd s b1) := mk_nm_wd isn.1
      have nmM : w4.2.1 261 7 = Int64.ofNat (mk_c27 (mk_wd s b1)) := y2.2.2.2.2.2.2.1 isn.1
      have kx10 := kx7.tr r2.tx
      have bX10 := bX7.cr r2.1 (fun j z => by omega)
      have nm10 : a2.2.1 (d + 5) (A 263 1) = Int64.ofNat (mk_c32 (mk_wd s b1)) := by rw [r2.1.e2 (by omega)]; exact nm7 isn.1
      have x910 : a2.1 33 9 = 0 := r2.2.2.trans x97
      refine mj_two.ml ?_
      dsimp only
      rw [nmM]
      refine mj_two.m (mi_ttake hs y2) (fun w10 ⟨z1, z2⟩ => ?_)
      generalize mk_wd s b1 = nw at *
      generalize mk_ntk s b1 = b2 at *
      have ky10 := ky4.tr z1.ty
      have bM10 := bM4.ch z1.1 (fun j z => by omega)
      refine mj_two.xs (mx_gW r3) ?_
      have b2l := r3.1
      simp only [mm_jp]
      rcases mj_truth z2 with ⟨tr, t1, w, wo, kM⟩ | ⟨n19, n20, kM⟩
      · have ifX : ∀ (K : Option (Int32 × mm_H)) (W : Option (Int32 × mm_H)), (if mk_wo s b2 = some 19 then K else ((mm_gW a2).bind fun wd56 => if wd56 = some 20 then K else W)) = K := by
          intro K W
          rw [wo]
          have : tr = 0 ∨ tr = 1 := by omega
          rcases this with rfl | rfl
          · exact if_pos rfl
          · rw [if_neg (by decide), mk_bs (mx_gW r3), wo]; exact if_pos rfl
        rw [ifX]
        refine mj_two.mu (mj_two.ms kM ?_)
        refine mj_two.xs (mx_gW r3) ?_
        refine mj_two.xs (v := Int32.ofNat (if tr = 1 then 2 ^ A 263 1 else 0)) ?_ ?_
        · rw [wo]
          have : tr = 0 ∨ tr = 1 := by omega
          rcases this with rfl | rfl
          · rw [if_neg (by decide)]; rfl
          · rw [if_pos rfl, mn_shl (by omega), if_pos rfl]
        rw [bX10.c8, mn_or]
        refine mj_two.xl ?_
        refine mj_two.ms ixM (mj_two.ml (mj_two.ms ixM ?_))
        rw [far, if_pos (mj_nn0 (by omega))]
        have kx23 : mj_tx 13 d hX (mm_pI a2 d 8 (Int32.ofNat (A 999 0 ||| if tr = 1 then 2 ^ A 263 1 else 0))) := kx10.tr (mj_tx.p ⟨by omega, by omega⟩ d33)
        have bX23 : mj_BX (mj_aF A (A 999 0 ||| if tr = 1 then 2 ^ A 263 1 else 0)) nP nS d (mm_pI a2 d 8 (Int32.ofNat (A 999 0 ||| if tr = 1 then 2 ^ A 263 1 else 0))) := bX10.aF
        have TX23 : mk_TKX s b2 (mm_pI a2 d 8 (Int32.ofNat (A 999 0 ||| if tr = 1 then 2 ^ A 263 1 else 0))) := r3.cell ⟨by omega, by omega⟩
        have n23 : (mm_pI a2 d 8 (Int32.ofNat (A 999 0 ||| if tr = 1 then 2 ^ A 263 1 else 0))).2.1 (d + 5) (A 263 1) = Int64.ofNat (mk_c32 nw) := nm10
        have x923 : (mm_pI a2 d 8 (Int32.ofNat (A 999 0 ||| if tr = 1 then 2 ^ A 263 1 else 0))).1 33 9 = 0 := by rw [mp_I1, if_neg (by omega)]; exact x910
        revert kx23 bX23 TX23 n23 x923
        generalize mm_pI a2 d 8 (Int32.ofNat (A 999 0 ||| if tr = 1 then 2 ^ A 263 1 else 0)) = h23
        intro kx23 bX23 TX23 n23 x923
        have ky25 : mj_ty 277 hM (mm_pI w10 269 (10 + A 263 1) (Int32.ofNat tr)) := ky10.tr (mj_ty.p ⟨by omega, by omega⟩ (show 10 ≤ 10 + A 263 1 by omega))
        have bM25 : mj_BM A nP nS (mm_pI w10 269 (10 + A 263 1) (Int32.ofNat tr)) := bM10.w (Or.inr (Or.inl ⟨⟨by omega, by omega⟩, Nat.le_refl _⟩))
        have TM25 : mk_TKM s b2 (mm_pI w10 269 (10 + A 263 1) (Int32.ofNat tr)) := z2.cell ⟨by omega, by omega⟩
        have g25 : (mm_pI w10 269 (10 + A 263 1) (Int32.ofNat tr)).1 269 (10 + A 263 1) = Int32.ofNat tr := far _ _ _ _
        revert ky25 bM25 TM25 g25
        generalize mm_pI w10 269 (10 + A 263 1) (Int32.ofNat tr) = h25
        intro ky25 bM25 TM25 g25
        refine mj_two.x (mx_ttake hs TX23) (fun v26 ⟨o1, o2⟩ => ?_)
        refine mj_two.m (mi_ttake hs TM25) (fun w30 ⟨p1, p2⟩ => ?_)
        have nt2 := mk_ntk_le (s := s) (b := b2) b2l
        have en2 := (mk_en_le (s := s) (b := b2) b2l).1
        generalize mk_ntk s b2 = b3 at *
        have b3l := o2.1
        have kx26 := kx23.tr o1.tx
        have bX26 := bX23.cr o1.1 (fun j z => by omega)
        have n26 : v26.2.1 (d + 5) (A 263 1) = Int64.ofNat (mk_c32 nw) := by rw [o1.1.e2 (by omega)]; exact n23
        have x926 : v26.1 33 9 = 0 := o1.2.2.trans x923
        have ky30 := ky25.tr p1.ty
        have bM30 := bM25.ch p1.1 (fun j z => by omega)
        have g30 : w30.1 269 (10 + A 263 1) = Int32.ofNat tr := by rw [p1.1.e1 (by omega)]; exact g25
        unfold f_Tr_readOf
        rw [if_pos td]
        refine mj_two.xa ?_
        by_cases wof : mk_isw s b3 4
        · refine mj_two.x (mx_takeWord1 hs o2 (by omega) wof) (fun v2 ⟨e1, e2, e3⟩ => ?_)
          refine mj_two.m (mi_needsWord1 (i := 4) hs p2 (by omega) wof) (fun v32 ⟨e4, e5, e6⟩ => ?_)
          rw [e1, e4, if_neg (show ¬ (1 : Int32) = 0 by decide), if_neg (show ¬ (1 : Int32) = 0 by decide)]
          have nt3 := mk_ntk_le (s := s) (b := b3) b3l
          have en3 := (mk_en_le (s := s) (b := b3) b3l).1
          generalize mk_ntk s b3 = b4 at *
          have b4l := e3.1
          have kx2 := kx26.tr e2.tx
          have bX2 := bX26.cr e2.1 (fun j z => by omega)
          have n2 : v2.2.2.1 (d + 5) (A 263 1) = Int64.ofNat (mk_c32 nw) := by rw [e2.1.e2 (by omega)]; exact n26
          have x92 : v2.2.1 33 9 = 0 := e2.2.2.trans x926
          have ky32 := ky30.tr e5.ty
          have bM32 := bM30.ch e5.1 (fun j z => by omega)
          have g32 : v32.2.1 269 (10 + A 263 1) = Int32.ofNat tr := by rw [e5.1.e1 (by omega)]; exact g30
          refine mj_two.xa ?_
          have FPx : ∀ k : mk_kd s b4 = 1, _ := fun k => mj_FP (nm := nP) (N := A 263 0) td hP B.oP bX2.NX.1 e3 k
          by_cases tf : mj_tf nP (A 263 0) s b4 = 0
          · obtain ⟨isn4, fl⟩ := mj_tf_0 tf
            have bs4 := (mk_kd_1 isn4.1).1
            have en4 := mk_en_lt bs4
            have nt4 := mk_ntk_le (s := s) (b := b4) b4l
            refine mj_two.x (mj_takeTold1 (nm := nP) (N := A 263 0) (x2 := 1) hs td (by omega) e3 (mj_findTold1 (nm := nP) td (by omega) e3 tf FPx) fl) (fun v4' ⟨q1, q2, q3⟩ => ?_)
            refine mj_two.ms (mi_needsP1 (r := 1) (by omega) hP B.oP bM32.NM.1 e6 tf) ?_
            dsimp only
            rw [q1, if_neg (show ¬ (1 : Int32) = 0 by decide), far]
            generalize mj_fd nP (A 263 0) s b4 = wh at *
            refine mj_two.xa (mj_two.xs ixX (mj_two.xla (mj_two.xa (mj_two.xs ixX ?_))))
            refine mj_two.ms ixM (mj_two.ml ?_)
            rw [far, if_neg (mn_nn1 (by omega))]
            have kx7' : mj_tx 13 d hX (mm_pI v4'.2 (d + 6) (A 263 1) (Int32.ofNat wh)) := (kx2.tr q2.tx).tr (mj_tx.p ⟨by omega, by omega⟩ d33)
            have bX7' : mj_BX (mj_aF A (A 999 0 ||| if tr = 1 then 2 ^ A 263 1 else 0)) nP nS d (mm_pI v4'.2 (d + 6) (A 263 1) (Int32.ofNat wh)) := (bX2.cr q2.1 (fun j z => by omega)).w (Or.inr (Or.inl ⟨by omega, Nat.le_refl _⟩))
            have n7' : (mm_pI v4'.2 (d + 6) (A 263 1) (Int32.ofNat wh)).2.1 (d + 5) (A 263 1) = Int64.ofNat (mk_c32 nw) := by rw [mp_I2, q2.1.e2 (by omega)]; exact n2
            have f7' : (mm_pI v4'.2 (d + 6) (A 263 1) (Int32.ofNat wh)).1 (d + 6) (A 263 1) = Int32.ofNat wh := far _ _ _ _
            have x97' : (mm_pI v4'.2 (d + 6) (A 263 1) (Int32.ofNat wh)).1 33 9 = 0 := by rw [mp_I1, if_neg (by omega)]; exact q2.2.2.trans x92
            have TX7' : mk_TKX s (mk_ntk s b4) (mm_pI v4'.2 (d + 6) (A 263 1) (Int32.ofNat wh)) := q3.cell ⟨by omega, by omega⟩
            revert kx7' bX7' n7' f7' x97' TX7'
            generalize mm_pI v4'.2 (d + 6) (A 263 1) (Int32.ofNat wh) = h7'
            intro kx7' bX7' n7' f7' x97' TX7'
            have ky37 : mj_ty 277 hM (mm_pI (mm_pI v32.2 261 41 (Int32.ofNat wh)) 270 (10 + A 263 1) (Int32.ofNat wh)) := (ky32.tr mj_ty.g).tr (mj_ty.p ⟨by omega, by omega⟩ (show 10 ≤ 10 + A 263 1 by omega))
            have bM37 : mj_BM A nP nS (mm_pI (mm_pI v32.2 261 41 (Int32.ofNat wh)) 270 (10 + A 263 1) (Int32.ofNat wh)) := (bM32.ch (mk_ch.pI (D := fun c => c = 261) rfl) (fun j z => by omega)).w (Or.inr (Or.inl ⟨⟨by omega, by omega⟩, Nat.le_refl _⟩))
            have TM37 : mk_TKM s b4 (mm_pI (mm_pI v32.2 261 41 (Int32.ofNat wh)) 270 (10 + A 263 1) (Int32.ofNat wh)) := (e6.g41 (j := 41) (by omega)).cell ⟨by omega, by omega⟩
            have g37 : (mm_pI (mm_pI v32.2 261 41 (Int32.ofNat wh)) 270 (10 + A 263 1) (Int32.ofNat wh)).1 269 (10 + A 263 1) = Int32.ofNat tr ∧ (mm_pI (mm_pI v32.2 261 41 (Int32.ofNat wh)) 270 (10 + A 263 1) (Int32.ofNat wh)).1 270 (10 + A 263 1) = Int32.ofNat wh := ⟨by rw [mp_I1, if_neg (by omega), mp_I1, if_neg (by omega)]; exact g32, far _ _ _ _⟩
            revert ky37 bM37 TM37 g37
            generalize mm_pI (mm_pI v32.2 261 41 (Int32.ofNat wh)) 270 (10 + A 263 1) (Int32.ofNat wh) = h37
            intro ky37 bM37 TM37 g37
            refine mj_two.m (mi_ttake hs TM37) (fun w40 ⟨m1, m2⟩ => ?_)
            generalize mk_ntk s b4 = b5 at *
            have b5l := TX7'.1
            refine mj_two.xua (mj_two.xa (mj_two.both (mj_wn (i := 5) (lo := 1) (hi := 99) hs (by omega) (by omega) (by omega) TX7' x97' m2) (fun a c R => ?_)))
            obtain ⟨a1, a3⟩ := a
            obtain ⟨c1, c3⟩ := c
            rcases R with ⟨f, nz, u1, u2, u3, u4⟩ | ⟨b6, co, l6, co1, co9, u1, u2, u3, u4, u5, u6⟩
            · obtain rfl : a1 = -1 := u1
              obtain rfl : c1 = 0 := u2
              refine mj_two.xa (mj_two.xs ixX (mj_two.xla (mj_two.xa (mj_two.xs ixX ?_))))
              dsimp only
              rw [far, if_pos rfl, if_pos rfl]
              refine mj_two.xs rfl ?_
              dsimp only
              rw [if_pos rfl]
              refine mj_two.ret (Or.inl ⟨f, nz, rfl, rfl, ?_, u4.2.2, (kx7'.tr u3.tx).tr (mj_tx.p ⟨by omega, by omega⟩ d33), (ky37.tr m1.ty).tr u4.ty⟩)
              rw [mp_I1, if_neg (by omega)]; exact u3.2.2
            · obtain rfl : a1 = Int32.ofNat co := u1
              obtain rfl : c1 = 1 := u4
              refine mj_two.xa (mj_two.xs ixX (mj_two.xla (mj_two.xa (mj_two.xs ixX ?_))))
              dsimp only
              rw [far, if_neg (mn_nn1 (by omega)), if_neg (show ¬ (1 : Int32) = 0 by decide), u5.2.2]
              refine mj_two.xs rfl ?_
              dsimp only
              rw [if_neg (show ¬ (1 : Int32) = 0 by decide)]
              refine mj_two.ms ixM (mj_two.ml (mj_two.ms ixM (mj_two.ml ?_)))
              unfold f_Tr_readOn
              rw [if_pos td]
              refine mj_two.xa (mj_two.xs ixX (mj_two.xla ?_))
              -- the class before on
              have kx3 : mj_tx 13 d hX (mm_pI (mm_pI a3 (d + 7) (A 263 1) (Int32.ofNat co)) (d + 8) (A 263 1) (-1)) := ((kx7'.tr u2.tx).tr (mj_tx.p ⟨by omega, by omega⟩ d33)).tr (mj_tx.p ⟨by omega, by omega⟩ d33)
              have sX3 : mj_sX A nP nS d tr wh co 0 nw (mm_pI (mm_pI a3 (d + 7) (A 263 1) (Int32.ofNat co)) (d + 8) (A 263 1) (-1)) := by
                refine ⟨((bX7'.cr u2.1 (fun j z => by omega)).w (Or.inr (Or.inl ⟨by omega, Nat.le_refl _⟩))).w (Or.inr (Or.inl ⟨by omega, Nat.le_refl _⟩)), ?_, ?_, ?_, ?_⟩
                · rw [mp_I2, mp_I2, u2.1.e2 (by omega)]; exact n7'
                · rw [mp_I1, if_neg (by omega), mp_I1, if_neg (by omega), u2.1.e1 (by omega)]; exact f7'
                · rw [mp_I1, if_neg (by omega), far]
                · rw [far]; rfl
              have TX3 : mk_TKX s b6 (mm_pI (mm_pI a3 (d + 7) (A 263 1) (Int32.ofNat co)) (d + 8) (A 263 1) (-1)) := (u3.cell ⟨by omega, by omega⟩).cell ⟨by omega, by omega⟩
              have x93 : (mm_pI (mm_pI a3 (d + 7) (A 263 1) (Int32.ofNat co)) (d + 8) (A 263 1) (-1)).1 33 9 = 0 := by rw [mp_I1, if_neg (by omega), mp_I1, if_neg (by omega)]; exact u2.2.2.trans x97'
              revert kx3 sX3 TX3 x93
              generalize mm_pI (mm_pI a3 (d + 7) (A 263 1) (Int32.ofNat co)) (d + 8) (A 263 1) (-1) = h3
              intro kx3 sX3 TX3 x93
              have ky49 : mj_ty 277 hM (mm_pI (mm_pI c3 271 (10 + A 263 1) (Int32.ofNat co)) 272 (10 + A 263 1) (-1)) := (((ky37.tr m1.ty).tr u5.ty).tr (mj_ty.p ⟨by omega, by omega⟩ (show 10 ≤ 10 + A 263 1 by omega))).tr (mj_ty.p ⟨by omega, by omega⟩ (show 10 ≤ 10 + A 263 1 by omega))
              have sM49 : mj_sM A nP nS tr wh co 0 (mm_pI (mm_pI c3 271 (10 + A 263 1) (Int32.ofNat co)) 272 (10 + A 263 1) (-1)) := by
                refine ⟨(((bM37.ch m1.1 (fun j z => by omega)).ch u5.1 (fun j z => by omega)).w (Or.inr (Or.inl ⟨⟨by omega, by omega⟩, Nat.le_refl _⟩))).w (Or.inr (Or.inl ⟨⟨by omega, by omega⟩, Nat.le_refl _⟩)), ?_, ?_, ?_, ?_⟩
                · rw [mp_I1, if_neg (by omega), mp_I1, if_neg (by omega), u5.1.e1 (by omega), m1.1.e1 (by omega)]; exact g37.1
                · rw [mp_I1, if_neg (by omega), mp_I1, if_neg (by omega), u5.1.e1 (by omega), m1.1.e1 (by omega)]; exact g37.2
                · rw [mp_I1, if_neg (by omega), far]
                · rw [far]; rfl
              have TM49 : mk_TKM s b6 (mm_pI (mm_pI c3 271 (10 + A 263 1) (Int32.ofNat co)) 272 (10 + A 263 1) (-1)) := (u6.cell ⟨by omega, by omega⟩).cell ⟨by omega, by omega⟩
              revert ky49 sM49 TM49
              generalize mm_pI (mm_pI c3 271 (10 + A 263 1) (Int32.ofNat co)) 272 (10 + A 263 1) (-1) = h49
              intro ky49 sM49 TM49
              have b6l := TX3.1
              refine mj_two.xa (mj_two.xs (mx_gW TX3) ?_)
              by_cases won : mk_isw s b6 6
              · have bs6 := (mk_kd_1 won.1).1
                have en6 := mk_en_lt bs6
                have nt6 := mk_ntk_le (s := s) (b := b6) b6l
                have i6 : f_M_isWord 419 h49 = some 1 := (mi_isWord (i := 6) TM49 (by omega)).1 won
                rw [if_pos ((mk_wo_iff (by omega)).mpr won)]
                refine mj_two.ms i6 ?_
                rw [if_neg (show ¬ (1 : Int32) = 0 by decide)]
                refine mj_two.xa (mj_two.x (mx_ttake hs TX3) (fun v8 ⟨m3, m4⟩ => ?_))
                refine mj_two.m (mi_ttake hs TM49) (fun w81 ⟨m5, m6⟩ => ?_)
                generalize mk_ntk s b6 = b7 at *
                have b7l := m4.1
                have kx8 := kx3.tr m3.tx
                have sX8 := sX3.fx d33 m3.1
                have x98 : v8.1 33 9 = 0 := m3.2.2.trans x93
                have ky81 := ky49.tr m5.ty
                have sM81 := sM49.ch m5.1 (fun j z => by omega)
                refine mj_two.xa ?_
                have FSx : ∀ k : mk_kd s b7 = 1, _ := fun k => mj_FS (nm := nS) (N := A 263 1) td hS1 B.oS sX8.1.NX.2 m4 k
                by_cases tg : mj_tf nS (A 263 1) s b7 = 0
                · obtain ⟨isn7, fl7⟩ := mj_tf_0 tg
                  have bs7 := (mk_kd_1 isn7.1).1
                  have en7 := mk_en_lt bs7
                  have nt7 := mk_ntk_le (s := s) (b := b7) b7l
                  refine mj_two.x (mj_takeTold1 (nm := nS) (N := A 263 1) (x2 := 0) hs td hS1 m4 (mj_findTold1 (nm := nS) td hS1 m4 tg FSx) fl7) (fun v10 ⟨q1, q2, q3⟩ => ?_)
                  refine mj_two.ms (mi_needsS1 (r := 1) (by omega) hS1 B.oS sM81.1.NM.2 m6 tg) ?_
                  dsimp only
                  rw [q1, if_neg (show ¬ (1 : Int32) = 0 by decide), far]
                  generalize mj_fd nS (A 263 1) s b7 = on at *
                  refine mj_two.xa (mj_two.xs ixX (mj_two.xla (mj_two.xa (mj_two.xs ixX ?_))))
                  refine mj_two.ms ixM (mj_two.ml ?_)
                  rw [far, if_neg (mn_nn1 (by omega))]
                  refine mj_two.xs rfl ?_
                  dsimp only
                  rw [if_neg (show ¬ (1 : Int32) = 0 by decide)]
                  have on1 : Int32.ofNat (on + 1) - 1 = Int32.ofNat on := by rw [mn_on1 (by omega), Nat.add_sub_cancel]
                  have kx13 : mj_tx 13 d hX (mm_pI v10.2 (d + 8) (A 263 1) (Int32.ofNat on)) := (kx8.tr q2.tx).tr (mj_tx.p ⟨by omega, by omega⟩ d33)
                  have sX13 : mj_sX A nP nS d tr wh co (on + 1) nw (mm_pI v10.2 (d + 8) (A 263 1) (Int32.ofNat on)) := by
                    have z := sX8.fx d33 q2.1
                    refine ⟨z.1.w (Or.inr (Or.inl ⟨by omega, Nat.le_refl _⟩)), z.2.1, ?_, ?_, ?_⟩
                    · rw [mp_I1, if_neg (by omega)]; exact z.2.2.1
                    · rw [mp_I1, if_neg (by omega)]; exact z.2.2.2.1
                    · rw [far, on1]
                  have ky86 : mj_ty 277 hM (mm_pI (mm_pI w81 261 41 (Int32.ofNat on)) 272 (10 + A 263 1) (Int32.ofNat on)) := (ky81.tr mj_ty.g).tr (mj_ty.p ⟨by omega, by omega⟩ (show 10 ≤ 10 + A 263 1 by omega))
                  have sM86 : mj_sM A nP nS tr wh co (on + 1) (mm_pI (mm_pI w81 261 41 (Int32.ofNat on)) 272 (10 + A 263 1) (Int32.ofNat on)) := by
                    have z := sM81.ch (mk_ch.pI (D := fun c => c = 261) (h := w81) (a := 261) (k := 41) (v := Int32.ofNat on) rfl) (fun j z => by omega)
                    refine ⟨z.1.w (Or.inr (Or.inl ⟨⟨by omega, by omega⟩, Nat.le_refl _⟩)), ?_, ?_, ?_, ?_⟩
                    · rw [mp_I1, if_neg (by omega)]; exact z.2.1
                    · rw [mp_I1, if_neg (by omega)]; exact z.2.2.1
                    · rw [mp_I1, if_neg (by omega)]; exact z.2.2.2.1
                    · rw [far, on1]
                  have TM86 : mk_TKM s b7 (mm_pI (mm_pI w81 261 41 (Int32.ofNat on)) 272 (10 + A 263 1) (Int32.ofNat on)) := (m6.g41 (j := 41) (by omega)).cell ⟨by omega, by omega⟩
                  refine mj_two.m (mi_ttake hs TM86) (fun w89 ⟨m7, m8⟩ => ?_)
                  exact mj_secret2 hs hd B S9 ixM t1 fl ⟨co1, co9⟩ (by omega) wnm (by omega) (by omega) kx13 (ky86.tr m7.ty) sX13 (sM86.ch m7.1 (fun j z => by omega)) (q3.cell ⟨by omega, by omega⟩) (by rw [mp_I1, if_neg (by omega)]; exact q2.2.2.trans x98) m8
                · refine mj_two.x (mj_takeTold0 (v0 := mk_fv (mj_tf nS (A 263 1) s b7) b7) (x2 := 0) td (mj_findTold0 (nm := nS) (N := A 263 1) td m4 x98 tg FSx)) (fun v10 ⟨q1, q2⟩ => ?_)
                  refine mj_two.m (mi_needsS0 (r := 1) (by omega) hS1 B.oS sM81.1.NM.2 m6 tg) (fun v83 ⟨q3, q4⟩ => ?_)
                  rw [q1, q3, if_pos rfl]
                  refine mj_two.xa (mj_two.xs ixX (mj_two.xla (mj_two.xa (mj_two.xs ixX ?_))))
                  rw [far, if_pos rfl]
                  refine mj_two.xs rfl ?_
                  dsimp only
                  rw [if_pos rfl]
                  refine mj_two.ret (Or.inl ⟨_, mj_tf_nz (by omega) tg, rfl, rfl, ?_, q4.2.2, (kx8.tr q2.tx).tr (mj_tx.p ⟨by omega, by omega⟩ d33), ky81.tr q4.ty⟩)
                  rw [mp_I1, if_neg (by omega)]; exact q2.2.2
              · have i6 : f_M_isWord 419 h49 = some 0 := (mi_isWord (i := 6) TM49 (by omega)).2 won
                rw [if_neg (fun z => won ((mk_wo_iff (by omega)).mp z))]
                refine mj_two.ms i6 ?_
                rw [if_pos rfl]
                refine mj_two.xs rfl ?_
                dsimp only
                rw [if_neg (show ¬ (1 : Int32) = 0 by decide)]
                exact mj_secret2 hs hd B S9 ixM t1 fl ⟨co1, co9⟩ (by omega) wnm (by omega) (by omega) kx3 ky49 sX3 sM49 TX3 x93 TM49
          · refine mj_two.x (mj_takeTold0 (v0 := mk_fv (mj_tf nP (A 263 0) s b4) b4) (x2 := 1) td (mj_findTold0 (nm := nP) (N := A 263 0) td e3 x92 tf FPx)) (fun v4' ⟨q1, q2⟩ => ?_)
            refine mj_two.m (mi_needsP0 (r := 1) (by omega) hP B.oP bM32.NM.1 e6 tf) (fun v34 ⟨q3, q4⟩ => ?_)
            rw [q1, q3, if_pos rfl]
            refine mj_two.xa (mj_two.xs ixX (mj_two.xla (mj_two.xa (mj_two.xs ixX ?_))))
            rw [far, if_pos rfl]
            refine mj_two.xs rfl ?_
            dsimp only
            rw [if_pos rfl]
            refine mj_two.ret (Or.inl ⟨_, mj_tf_nz (by omega) tf, rfl, rfl, ?_, q4.2.2, (kx2.tr q2.tx).tr (mj_tx.p ⟨by omega, by omega⟩ d33), ky32.tr q4.ty⟩)
            rw [mp_I1, if_neg (by omega)]; exact q2.2.2
        · refine mj_two.x (mx_takeWord0 o2 (by omega) x926 wof) (fun v2 ⟨e1, e2⟩ => ?_)
          refine mj_two.m (mi_needsWord0 (i := 4) p2 (by omega) wof) (fun v32 ⟨e4, e5⟩ => ?_)
          rw [e1, e4, if_pos rfl, if_pos rfl]
          refine mj_two.xs rfl ?_
          dsimp only
          rw [if_pos rfl]
          exact mj_two.ret (mj_TR.f (mj_fv_nz (k := 1) (b := b3) (by omega) (by omega) (by omega)) kx26 ky30 e2 e5)
      · rw [if_neg n19]
        refine mj_two.xs (mx_gW r3) ?_
        rw [if_neg n20]
        refine mj_two.mu (mj_two.ms kM (mj_two.ms ixM (mj_two.ml (mj_two.ms ixM ?_))))
        rw [far, if_neg (show ¬ (0 : Int32) ≤ -1 by decide)]
        have TM35 : mk_TKM s b2 (mm_pI w10 269 (10 + A 263 1) (-1)) := z2.cell ⟨by omega, by omega⟩
        refine mj_two.x (mx_wrong (k := 1) r3 x910) (fun v1 ⟨w1, w2⟩ => ?_)
        refine mj_two.m (mi_fails (k := 1) TM35) (fun v2 ⟨w3, w4⟩ => ?_)
        rw [w1, w3]
        exact mj_two.xs mk_bo0 (mj_two.ms mk_bo0 (mj_two.ret (mj_TR.f (mj_fv_nz (k := 1) (b := b2) (by omega) (by omega) (by omega)) kx10 (ky10.tr (mj_ty.p ⟨by omega, by omega⟩ (show 10 ≤ 10 + A 263 1 by omega))) w2 w4)))
