/-! town: a secret's line, both sides -/
/-- the facts of a secret under way, at slot S -/
def mj_sX (A : mk_A) (nP nS : Nat → Nat → Nat) (d tr wh co on : Nat) (nw : Nat → Nat) (g : mm_H) : Prop := mj_BX (mj_aF A (A 999 0 ||| (if tr = 1 then 2 ^ A 263 1 else 0))) nP nS d g ∧ g.2.1 (d + 5) (A 263 1) = Int64.ofNat (mk_c32 nw) ∧ g.1 (d + 6) (A 263 1) = Int32.ofNat wh ∧ g.1 (d + 7) (A 263 1) = Int32.ofNat co ∧ g.1 (d + 8) (A 263 1) = Int32.ofNat on - 1
def mj_sM (A : mk_A) (nP nS : Nat → Nat → Nat) (tr wh co on : Nat) (g : mm_H) : Prop := mj_BM A nP nS g ∧ g.1 269 (10 + A 263 1) = Int32.ofNat tr ∧ g.1 270 (10 + A 263 1) = Int32.ofNat wh ∧ g.1 271 (10 + A 263 1) = Int32.ofNat co ∧ g.1 272 (10 + A 263 1) = Int32.ofNat on - 1
theorem mj_sX.fx {A : mk_A} {nP nS : Nat → Nat → Nat} {d tr wh co on : Nat} {nw : Nat → Nat} {g g' : mm_H} (q : mj_sX A nP nS d tr wh co on nw g) (hd : 33 < d) (k : mk_cr (fun c => c = 33) g g') : mj_sX A nP nS d tr wh co on nw g' := by
  obtain ⟨q1, q2, q3, q4, q5⟩ := q
  exact ⟨q1.cr k (fun j z => by omega), by rw [k.e2 (by omega)]; exact q2, by rw [k.e1 (by omega)]; exact q3, by rw [k.e1 (by omega)]; exact q4, by rw [k.e1 (by omega)]; exact q5⟩
theorem mj_sM.ch {D : Nat → Prop} {A : mk_A} {nP nS : Nat → Nat → Nat} {tr wh co on : Nat} {g g' : mm_H} (q : mj_sM A nP nS tr wh co on g) (k : mk_ch D g g') (hD : ∀ j, D j → j < 263 ∨ 277 < j) : mj_sM A nP nS tr wh co on g' := by
  have n : ∀ j, 263 ≤ j → j ≤ 277 → ¬ D j := fun j h1 h2 z => by have := hD _ z; omega
  obtain ⟨q1, q2, q3, q4, q5⟩ := q
  exact ⟨q1.ch k hD, by rw [k.e1 (n 269 (by omega) (by omega))]; exact q2, by rw [k.e1 (n 270 (by omega) (by omega))]; exact q3, by rw [k.e1 (n 271 (by omega) (by omega))]; exact q4, by rw [k.e1 (n 272 (by omega) (by omega))]; exact q5⟩
theorem mj_secret2 {A : mk_A} {nP nS : Nat → Nat → Nat} {s : mk_S} {b0 b d tr wh co on : Nat} {nw : Nat → Nat} {Y : Int32} {hX hM gX gM : mm_H} (hs : mk_sgs s) (hd : d = 79 ∨ d = 96) (B : mj_BT A nP nS) (S9 : A 263 1 < 10) (ixM : mm_ix Y 20 = some (10 + A 263 1)) (h1 : tr ≤ 1) (h2 : wh < A 263 0) (h3 : 1 ≤ co ∧ co ≤ 99) (h4 : on ≤ A 263 1) (wnm : mk_nm nw) (bb : b0 < b) (bc : A 263 3 ≤ b) (kx : mj_tx 13 d hX gX) (ky : mj_ty 277 hM gM) (sX : mj_sX A nP nS d tr wh co on nw gX) (sM : mj_sM A nP nS tr wh co on gM) (TX : mk_TKX s b gX) (x9 : gX.1 33 9 = 0) (TM : mk_TKM s b gM) : mj_two ((f_Ta_takeWord (some 7) gX).bind fun v32 => if v32.1 = 0 then (some (0, v32.2)) else ((f_To_takeSet d 1 v32.2).bind fun v34 => (mm_ix (Int32.ofNat (A 263 1)) 10).bind fun k35 => mm_let (mm_pI v34.2 (d + 9) k35 v34.1) fun h37 => (mm_ix (Int32.ofNat (A 263 1)) 10).bind fun k39 => if (h37.1 (d + 9) k39) = (-1) then (some (0, h37)) else (mm_let (mm_pI h37 d 6 ((h37.1 d 6) + 1)) fun h41 => some (1, h41)))) ((f_M_needsWord (79 : Int64) gM).bind fun v57 => if v57.1 = 0 then (some (0, v57.2)) else ((f_M_readsKnowers Y v57.2).bind fun v59 => if v59.1 = 0 then (some (0, v59.2)) else ((mm_ix Y 20).bind fun k60 => mm_let (mm_pI v59.2 274 k60 0) fun h62 => (mm_ix Y 20).bind fun k64 => mm_let (mm_pL h62 265 k64 (Int64.ofNat (mk_c27 nw))) fun h66 => mm_let (mm_pI h66 263 5 ((h66.1 263 5) + 1)) fun h68 => (f_M_closes h68).bind fun v71 => (mm_bo v71.1).bind fun b72 => some (b72, v71.2)))) (mj_TR s b0 d hX hM) := by
  have td : mm_tg d = 7 := (mk_tt hd).1
  have s1 := hs.1
  have bl := TX.1
  have hP := B.T.1.1
  have d33 : 33 < d := by omega
  have ixX : mm_ix (Int32.ofNat (A 263 1)) 10 = some (A 263 1) := mn_ix (by omega) (by omega)
  have far : ∀ (h : mm_H) (c j : Nat) (z : Int32), (mm_pI h c j z).1 c j = z := fun h c j z => by rw [mp_I1, if_pos ⟨rfl, rfl⟩]
  by_cases w : mk_isw s b 7
  · refine mj_two.x (mx_takeWord1 hs TX (by omega) w) (fun v32 ⟨p1, p2, p3⟩ => ?_)
    refine mj_two.m (mi_needsWord1 (i := 7) hs TM (by omega) w) (fun v57 ⟨p4, p5, p6⟩ => ?_)
    rw [p1, p4, if_neg (show ¬ (1 : Int32) = 0 by decide), if_neg (show ¬ (1 : Int32) = 0 by decide)]
    have nt := mk_ntk_le (s := s) (b := b) bl
    have en := (mk_en_le (s := s) (b := b) bl).1
    generalize mk_ntk s b = b1 at *
    have kx32 := kx.tr p2.tx
    have ky57 := ky.tr p5.ty
    have sX32 := sX.fx d33 p2.1
    have sM57 := sM.ch p5.1 (fun j z => by omega)
    have x932 : v32.2.1 33 9 = 0 := p2.2.2.trans x9
    unfold f_M_readsKnowers
    refine mj_two.ma (mj_two.ms ixM (mj_two.mla ?_))
    have ky3 : mj_ty 277 hM (mm_pI v57.2 273 (10 + A 263 1) 0) := ky57.tr (mj_ty.p ⟨by omega, by omega⟩ (show 10 ≤ 10 + A 263 1 by omega))
    have TM3 : mk_TKM s b1 (mm_pI v57.2 273 (10 + A 263 1) 0) := p6.cell ⟨by omega, by omega⟩
    have BM3 : mj_BM A nP nS (mm_pI v57.2 273 (10 + A 263 1) 0) := sM57.1.w (Or.inr (Or.inl ⟨⟨by omega, by omega⟩, Nat.le_refl _⟩))
    have M3 : ∀ c, 269 ≤ c → c ≤ 272 → (mm_pI v57.2 273 (10 + A 263 1) 0).1 c (10 + A 263 1) = v57.2.1 c (10 + A 263 1) := fun c c1 c2 => by rw [mp_I1, if_neg (by omega)]
    have z3 : (mm_pI v57.2 273 (10 + A 263 1) 0).1 273 (10 + A 263 1) = 0 := far _ _ _ _
    revert ky3 TM3 BM3 M3 z3
    generalize mm_pI v57.2 273 (10 + A 263 1) 0 = h3'
    intro ky3 TM3 BM3 M3 z3
    have NXf : ∀ h', mk_fx v32.2 h' → mj_HP d (A 263 0) nP h' := fun h' k => (sX32.1.cr k.1 (fun j z => by omega)).NX.1
    have NMf : ∀ h', mj_fs 273 (10 + A 263 1) h3' h' → mj_GP 1 (A 263 0) nP h' := fun h' k => (BM3.NM.ch k.1 ⟨by omega, by omega, by omega⟩).1
    refine mj_two.both (mj_set (b := b1) (N := A 263 0) (a0 := d) (cell := 273) (k := 10 + A 263 1) (x2 := 1) (nm := nP) hs td (by omega) ⟨by omega, by omega⟩ ixM (fun b h' k T e => mj_FP td hP B.oP (NXf h' k) T e) (fun b h' k T e => mi_needsP1 (r := 1) (by omega) hP B.oP (NMf h' k) T e) (fun b h' k T e => mi_needsP0 (r := 1) (by omega) hP B.oP (NMf h' k) T e) p3 x932 TM3 z3) (fun a c R => ?_)
    obtain ⟨a1, a2⟩ := a
    obtain ⟨c1, c2⟩ := c
    rcases R with ⟨f, nz, r1, r2, r3, r4⟩ | ⟨g, b', g0, gl, lt, is', r1, r2, r3, r4, r5, r6, r7⟩
    · obtain rfl : a1 = -1 := r1
      obtain rfl : c1 = 0 := r2
      refine mj_two.xs ixX (mj_two.xl (mj_two.xs ixX ?_))
      dsimp only
      rw [far, if_pos rfl, if_pos rfl]
      refine mj_two.ret (Or.inl ⟨f, nz, rfl, rfl, ?_, r4.2.2.2, (kx32.tr r3.tx).tr (mj_tx.p ⟨by omega, by omega⟩ d33), ky3.tr (r4.ty (by omega) (by omega))⟩)
      rw [mp_I1, if_neg (by omega)]; exact r3.2.2
    · obtain rfl : a1 = Int32.ofNat g := r1
      obtain rfl : c1 = 1 := r4
      have g64 : g < 64 := mk_p2 hP gl
      refine mj_two.xs ixX (mj_two.xl (mj_two.xs ixX ?_))
      dsimp only
      rw [far, if_neg (mn_nn1 (by omega)), if_neg (show ¬ (1 : Int32) = 0 by decide)]
      refine mj_two.ms ixM (mj_two.ml (mj_two.ms ixM (mj_two.ml (mj_two.ml ?_))))
      have sXa := sX32.fx d33 r2.1
      have d6 : (mm_pI a2 (d + 9) (A 263 1) (Int32.ofNat g)).1 d 6 = Int32.ofNat (A 263 1) := by rw [mp_I1, if_neg (by omega)]; exact sXa.1.c6
      refine mj_two.xl ?_
      rw [d6, show Int32.ofNat (A 263 1) + 1 = Int32.ofNat (A 263 1 + 1) from mn_addl 1 _]
      have bXf := mj_BX.addS (A := A) (tr := tr) (wh := wh) (co := co) (on := on) (by' := g) (w := nw) (sXa.1.w (c := d + 9) (j := A 263 1) (v := Int32.ofNat g) (Or.inr (Or.inl ⟨by omega, Nat.le_refl _⟩))) sXa.2.1 (by rw [mp_I1, if_neg (by omega)]; exact sXa.2.2.1) (by rw [mp_I1, if_neg (by omega)]; exact sXa.2.2.2.1) (by rw [mp_I1, if_neg (by omega)]; exact sXa.2.2.2.2) (far _ _ _ _)
      have kyc : mj_ty 277 hM c2 := ky3.tr (r5.ty (by omega) (by omega))
      have Mc : ∀ c, 269 ≤ c → c ≤ 272 → c2.1 c (10 + A 263 1) = v57.2.1 c (10 + A 263 1) := fun c c1 c2' => by rw [r5.1.e1 (by omega)]; exact M3 c c1 c2'
      have BMc : mj_BM A nP nS c2 := by
        obtain ⟨q1, q2, q3⟩ := r5
        obtain ⟨a1, a2', a3, a4, a5, a6, a7, a8, a9⟩ := BM3
        refine ⟨by rw [q1.e1 (by omega)]; exact a1, by rw [q1.e1 (by omega)]; exact a2', by rw [q1.e1 (by omega)]; exact a3, by rw [q1.e1 (by omega)]; exact a4, fun p hp => ?_, fun k hk => ?_, fun e he => ?_, fun k hk => ?_, fun k hk => ?_⟩
        · rw [q1.e1 (by omega), q1.e1 (by omega), q1.e1 (by omega)]; exact a5 p hp
        · rw [q1.e1 (by omega), q1.e1 (by omega), q1.e1 (by omega), q1.e1 (by omega), q1.e1 (c := 274) (by omega), q3 (10 + k) (by omega)]; exact a6 k hk
        · rw [q1.e1 (by omega), q1.e1 (by omega), q1.e1 (by omega)]; exact a7 e he
        · rw [q1.e2 (by omega)]; exact a8 k hk
        · rw [q1.e2 (by omega)]; exact a9 k hk
      have ky66 : mj_ty 277 hM (mm_pL (mm_pI c2 274 (10 + A 263 1) 0) 265 (10 + A 263 1) (Int64.ofNat (mk_c27 nw))) := (kyc.tr (mj_ty.p ⟨by omega, by omega⟩ (show 10 ≤ 10 + A 263 1 by omega))).tr (mj_ty.pL ⟨by omega, by omega⟩ (show 10 ≤ 10 + A 263 1 by omega))
      have BM66 : mj_BM A nP nS (mm_pL (mm_pI c2 274 (10 + A 263 1) 0) 265 (10 + A 263 1) (Int64.ofNat (mk_c27 nw))) := (BMc.w (Or.inr (Or.inl ⟨⟨by omega, by omega⟩, Nat.le_refl _⟩))).wL (Or.inr ⟨rfl, Nat.le_refl _⟩)
      have TM66 : mk_TKM s b' (mm_pL (mm_pI c2 274 (10 + A 263 1) 0) 265 (10 + A 263 1) (Int64.ofNat (mk_c27 nw))) := (r6.cell ⟨by omega, by omega⟩).cellL (by omega)
      have M66 : ∀ c, 269 ≤ c → c ≤ 273 → (mm_pL (mm_pI c2 274 (10 + A 263 1) 0) 265 (10 + A 263 1) (Int64.ofNat (mk_c27 nw))).1 c (10 + A 263 1) = c2.1 c (10 + A 263 1) := fun c c1 c2' => by rw [mp_L1, mp_I1, if_neg (by omega)]
      have e1 : (mm_pL (mm_pI c2 274 (10 + A 263 1) 0) 265 (10 + A 263 1) (Int64.ofNat (mk_c27 nw))).2.1 265 (10 + A 263 1) = Int64.ofNat (mk_c27 nw) := by rw [mp_L2, if_pos ⟨rfl, rfl⟩]
      have e7 : (mm_pL (mm_pI c2 274 (10 + A 263 1) 0) 265 (10 + A 263 1) (Int64.ofNat (mk_c27 nw))).1 274 (10 + A 263 1) = 0 := by rw [mp_L1, far]
      revert ky66 BM66 TM66 M66 e1 e7
      generalize mm_pL (mm_pI c2 274 (10 + A 263 1) 0) 265 (10 + A 263 1) (Int64.ofNat (mk_c27 nw)) = h66
      intro ky66 BM66 TM66 M66 e1 e7
      rw [BM66.c5, show Int32.ofNat (A 263 1) + 1 = Int32.ofNat (A 263 1 + 1) from mn_addl 1 _]
      have bMf := BM66.addS (tr := tr) (wh := wh) (co := co) (on := on) (by' := g) (w := nw) (B.z _ (Nat.le_refl _) S9) e1 (by rw [M66 _ (by omega) (by omega), Mc _ (by omega) (by omega)]; exact sM57.2.1) (by rw [M66 _ (by omega) (by omega), Mc _ (by omega) (by omega)]; exact sM57.2.2.1) (by rw [M66 _ (by omega) (by omega), Mc _ (by omega) (by omega)]; exact sM57.2.2.2.1) (by rw [M66 _ (by omega) (by omega), Mc _ (by omega) (by omega)]; exact sM57.2.2.2.2) (by rw [M66 _ (by omega) (by omega)]; exact r7) e7
      refine mj_two.m (mi_closes1 hs (TM66.cell (c := 263) (j := 5) (v := Int32.ofNat (A 263 1 + 1)) ⟨by omega, by omega⟩) is') (fun v71 ⟨o1, o2, o3⟩ => ?_)
      rw [o1]
      have nt' := mk_ntk_le (s := s) (b := b') r6.1
      have nte := (mk_en_le (s := s) (b := b') r6.1).1
      refine mj_two.ms mk_bo1 (mj_two.ret (Or.inr ⟨mk_ntk s b', mj_aS A tr wh co on g, nP, mj_nn nS (A 263 1) nw, by omega, rfl, rfl, ((kx32.tr r2.tx).tr (mj_tx.p ⟨by omega, by omega⟩ d33)).tr (mj_tx.p ⟨by omega, by omega⟩ d33), (ky66.tr (mj_ty.p ⟨by omega, by omega⟩ (show 4 ≤ 5 by omega))).tr o2.ty, (r3.cell ⟨by omega, by omega⟩).cell ⟨by omega, by omega⟩, ?_, o3, B.addS S9 h1 h2 h3 h4 gl wnm, ?_, bXf, bMf.ch o2.1 (fun j z => by omega)⟩))
      · rw [mp_I1, if_neg (by omega), mp_I1, if_neg (by omega)]; exact r2.2.2.trans x932
      · rw [mj_aS_o (by omega) (by omega) (by omega)]; omega
  · refine mj_two.x (mx_takeWord0 TX (by omega) x9 w) (fun v32 ⟨p1, p2⟩ => ?_)
    refine mj_two.m (mi_needsWord0 (i := 7) TM (by omega) w) (fun v57 ⟨p4, p5⟩ => ?_)
    rw [p1, p4, if_pos rfl, if_pos rfl]
    exact mj_two.ret (mj_TR.f (mj_fv_nz (k := 1) (b := b) (by omega) (by omega) (by omega)) kx ky p2 p5)
