/-! gossip: a line, both sides -/
theorem mj_two.xa {α α' α'' β : Type} {o : Option α''} {f : α'' → Option α'} {g : α' → Option α} {oM : Option β} {R : α → β → Prop} (h : mj_two (o.bind fun x => (f x).bind g) oM R) : mj_two ((o.bind f).bind g) oM R := by
  rw [Option.bind_assoc]; exact h
theorem mj_two.ma {α β β' β'' : Type} {o : Option β''} {f : β'' → Option β'} {g : β' → Option β} {oX : Option α} {R : α → β → Prop} (h : mj_two oX (o.bind fun x => (f x).bind g) R) : mj_two oX ((o.bind f).bind g) R := by
  rw [Option.bind_assoc]; exact h
theorem mj_two.xla {α α' α'' β : Type} {e : α''} {k : α'' → Option α'} {g : α' → Option α} {oM : Option β} {R : α → β → Prop} (h : mj_two ((k e).bind g) oM R) : mj_two ((mm_let e k).bind g) oM R := h
theorem mj_two.mla {α β β' β'' : Type} {e : β''} {k : β'' → Option β'} {g : β' → Option β} {oX : Option α} {R : α → β → Prop} (h : mj_two oX ((k e).bind g) R) : mj_two oX ((mm_let e k).bind g) R := h
def mj_GR (P S : Nat) (s : mk_S) (b : Nat) (v : mj_L) (hX hM : mm_H) (a c : Int32 × mm_H) : Prop := (∃ f, ¬ f = 0 ∧ a.1 = 0 ∧ c.1 = 0 ∧ a.2.1 33 9 = f ∧ c.2.1 261 9 = f ∧ mj_gx hX a.2 ∧ mj_gm (150 + v 0 0) hM c.2) ∨ (∃ b' v', b < b' ∧ a.1 = 1 ∧ c.1 = 1 ∧ mj_gx hX a.2 ∧ mj_gm (150 + v 0 0) hM c.2 ∧ mk_TKX s b' a.2 ∧ a.2.1 33 9 = 0 ∧ mk_TKM s b' c.2 ∧ mj_LX v' 54 a.2 ∧ mj_LM v' c.2 ∧ mj_LW P S v')
theorem mj_GR.f {P S : Nat} {s : mk_S} {b : Nat} {v : mj_L} {hX hM gX gM eX eM : mm_H} {f : Int32} (nz : ¬ f = 0) (kx : mj_gx hX gX) (km : mj_gm (150 + v 0 0) hM gM) (x : mk_FX f gX eX) (m : mk_FM f gM eM) : mj_GR P S s b v hX hM (0, eX) (0, eM) := Or.inl ⟨f, nz, rfl, rfl, x.2.2, m.2.2, kx.tr x.gx, km.tr m.gm⟩
theorem mj_tf_nz {nm : Nat → Nat → Nat} {N : Nat} {s : mk_S} {b : Nat} (hb : b ≤ 1000) (e : ¬ mj_tf nm N s b = 0) : ¬ mk_fv (mj_tf nm N s b) b = 0 := by
  by_cases n : mk_isn s b
  · rw [(mj_tf_2 e n).2]; exact mj_fv_nz (by omega) (by omega) hb
  · rw [mj_tf_1 n]; exact mj_fv_nz (by omega) (by omega) hb
theorem mj_gend {P S : Nat} {s : mk_S} {b b1 d w x y : Nat} {v : mj_L} {hX hM gX gM : mm_H} {kX : Int32 × mm_H → Option (Int32 × mm_H)} (hs : mk_sgs s) (hb : b ≤ b1) (hk0 : ∀ h, kX (0, h) = some (0, h)) (hk1 : ∀ h, kX (1, h) = some (1, h)) (kx : mj_gx hX gX) (km : mj_gm (150 + v 0 0) hM gM) (TX : mk_TKX s b1 gX) (h9 : gX.1 33 9 = 0) (TM : mk_TKM s b1 gM) (LM : mj_LM v hM) (e0 : gM.1 293 5 = Int32.ofNat (v 0 0)) (e1 : gM.1 294 (150 + v 0 0) = Int32.ofNat d) (e2 : ¬ d = 3 → gM.1 295 (150 + v 0 0) = Int32.ofNat w) (e3 : d = 0 → gM.1 296 (150 + v 0 0) = Int32.ofNat x) (e4 : d ≤ 1 → gM.1 297 (150 + v 0 0) = Int32.ofNat y) (LX : mj_LX (mj_push v d w x y) 54 gX) (LW : mj_LW P S (mj_push v d w x y)) : mj_two ((f_Ta_takeSign 59 gX).bind kX) (mm_let (mm_pI gM 293 5 ((gM.1 293 5) + 1)) fun h34 => (f_M_closes h34).bind fun v37 => (mm_bo v37.1).bind fun b38 => some (b38, v37.2)) (mj_GR P S s b v hX hM) := by
  refine mj_two.ml ?_
  rw [e0, show Int32.ofNat (v 0 0) + 1 = Int32.ofNat (v 0 0 + 1) from mn_addl 1 _]
  have TM' : mk_TKM s b1 (mm_pI gM 293 5 (Int32.ofNat (v 0 0 + 1))) := TM.cell ⟨by omega, by omega⟩
  have km' : mj_gm (150 + v 0 0) hM (mm_pI gM 293 5 (Int32.ofNat (v 0 0 + 1))) := km.tr mj_gm.n
  refine mj_two.both (mj_close hs TX h9 TM') (fun a c q => ?_)
  rcases q with ⟨f, nz, q1, q2, q3, q4⟩ | ⟨lt, q1, q2, ⟨q3, q4⟩, q5, q6⟩
  · obtain ⟨a1, a2⟩ := a
    obtain ⟨c1, c2⟩ := c
    obtain rfl : a1 = 0 := q1
    obtain rfl : c1 = 0 := q2
    rw [hk0]
    exact mj_two.ms mk_bo0 (mj_two.ret (mj_GR.f nz kx km' q3 q4))
  · obtain ⟨a1, a2⟩ := a
    obtain ⟨c1, c2⟩ := c
    obtain rfl : a1 = 1 := q1
    obtain rfl : c1 = 1 := q2
    rw [hk1]
    refine mj_two.ms mk_bo1 (mj_two.ret (Or.inr ⟨mk_ntk s b1, mj_push v d w x y, by omega, rfl, rfl, kx.tr q3.gx, km'.tr q5.gm, q4, q3.2.2.trans h9, q6, LX.cr q3.1 (fun j z => by omega), ?_, LW⟩))
    have z : ∀ c, 293 ≤ c → c ≤ 297 → c2.1 c = (mm_pI gM 293 5 (Int32.ofNat (v 0 0 + 1))).1 c := fun c h1 h2 => q5.1.e1 (by omega)
    have z' : ∀ c k, 294 ≤ c → c2.1 c k = gM.1 c k ∨ 297 < c := fun c k h1 => by
      by_cases h2 : c ≤ 297
      · left; rw [z c (by omega) h2, mp_I1, if_neg (by omega)]
      · right; omega
    refine mj_LM_push LM (km'.tr q5.gm) ?_ ?_ (fun n => ?_) (fun n => ?_) (fun n => ?_)
    · rw [z 293 (by omega) (by omega), mp_I1, if_pos ⟨rfl, rfl⟩]
    · rw [(z' 294 _ (by omega)).resolve_right (by omega)]; exact e1
    · rw [(z' 295 _ (by omega)).resolve_right (by omega)]; exact e2 n
    · rw [(z' 296 _ (by omega)).resolve_right (by omega)]; exact e3 n
    · rw [(z' 297 _ (by omega)).resolve_right (by omega)]; exact e4 n
theorem mk_TKX.ch54 {s : mk_S} {b : Nat} {h h' : mm_H} (T : mk_TKX s b h) (k1 : mk_ch (fun c => 54 ≤ c ∧ c ≤ 58) h h') : mk_TKX s b h' := by
  obtain ⟨t0, t1, t2, t3, t4, t5, t6, t7, t8⟩ := T
  exact ⟨t0, ⟨by rw [k1.e1 (c := 33) (by omega)]; exact t1.1, fun k hk => by rw [k1.e1 (c := 34) (by omega)]; exact t1.2 k hk⟩, by rw [k1.e1 (c := 33) (by omega)]; exact t2, by rw [k1.e1 (c := 33) (by omega)]; exact t3, by rw [k1.e1 (c := 33) (by omega)]; exact t4, by rw [k1.2]; exact t5, fun z => by rw [k1.e2 (c := 33) (by omega)]; exact t6 z, fun z => by rw [k1.e1 (c := 33) (by omega)]; exact t7 z, fun z => by rw [k1.e1 (c := 33) (by omega)]; exact t8 z⟩
theorem mj_gline {t P S : Nat} {nP nS : Nat → Nat → Nat} {s : mk_S} {b : Nat} {v : mj_L} {hX hM : mm_H} (hs : mk_sgs s) (ht : t = 79 ∨ t = 96) (hP : P ≤ 6) (hS : S ≤ 10) (oP : mj_nms P nP) (oS : mj_nms S nS) (NX : mj_NAX t P S nP nS hX) (NM : mj_NAM 0 P S nP nS hM) (TX : mk_TKX s b hX) (h9 : hX.1 33 9 = 0) (TM : mk_TKM s b hM) (LX : mj_LX v 54 hX) (LM : mj_LM v hM) (LW : mj_LW P S v) : mj_two (f_Go_readLine t 54 hX) (f_M_readsLine hM) (mj_GR P S s b v hX hM) := by
  have tt : mm_tg t = 7 := (mk_tt ht).1
  have s1 := hs.1
  have bl := TX.1
  have n30 := LW.1
  unfold f_Go_readLine f_M_readsLine
  rw [if_pos ⟨tt, mj_t54.1⟩]
  refine mj_two.xs (mx_gW TX) ?_
  simp only [mm_jp]
  by_cases w0 : ∃ d, d < 4 ∧ mk_isw s b (11 + d)
  · obtain ⟨d, hd, w⟩ := w0
    have wo : mk_wo s b = some (11 + d) := (mk_wo_iff (by omega)).mpr w
    have hd' : d = 0 ∨ d = 1 ∨ d = 2 ∨ d = 3 := by omega
    have bs : b < s.1 := (mk_kd_1 w.1).1
    have en := mk_en_lt bs
    have nt := mk_ntk_le (s := s) (b := b) bl
    have iw : ∀ e, e < 4 → f_M_isWord (mk_k27 (11 + e)) hM = some (if e = d then 1 else 0) := fun e he => by
      by_cases c : e = d
      · rw [if_pos c, c]; exact (mi_isWord TM (by omega)).1 w
      · rw [if_neg c]; exact (mi_isWord TM (by omega)).2 (fun z => c (by have := mk_isw_inj (by omega) (by omega) z w; omega))
    have i0 : f_M_isWord 397641 hM = some (if 0 = d then 1 else 0) := iw 0 (by omega)
    have i1 : f_M_isWord 11716 hM = some (if 1 = d then 1 else 0) := iw 1 (by omega)
    have i2 : f_M_isWord 361373 hM = some (if 2 = d then 1 else 0) := iw 2 (by omega)
    have i3 : f_M_isWord 6888375828 hM = some (if 3 = d then 1 else 0) := iw 3 (by omega)
    have chX : ∀ (K W : Option (Int32 × mm_H)), (if mk_wo s b = some 11 then K else if mk_wo s b = some 12 then K else if mk_wo s b = some 13 then K else if mk_wo s b = some 14 then K else W) = K := by
      intro K W
      rw [wo]
      rcases hd' with rfl | rfl | rfl | rfl
      · exact if_pos rfl
      · rw [if_neg (by decide)]; exact if_pos rfl
      · rw [if_neg (by decide), if_neg (by decide)]; exact if_pos rfl
      · rw [if_neg (by decide), if_neg (by decide), if_neg (by decide)]; exact if_pos rfl
    rw [chX]
    refine mj_two.ms i0 ?_
    refine mj_two.ms (v := Int32.ofNat d) ?_ ?_
    · rcases hd' with rfl | rfl | rfl | rfl
      · exact if_neg (by decide)
      · rw [if_pos (by decide), mk_bs i1]; exact if_neg (by decide)
      · rw [if_pos (by decide), mk_bs i1, if_pos (by decide), mk_bs i2]; exact if_neg (by decide)
      · rw [if_pos (by decide), mk_bs i1, if_pos (by decide), mk_bs i2, if_pos (by decide), mk_bs i3]; exact if_neg (by decide)
    rw [if_pos (mj_nn0 (show d < 1000 by omega)), LX.1, LM.1]
    by_cases c30 : v 0 0 = 30
    · rw [if_neg (fun z => absurd ((mn_ltl (b := 30) (show v 0 0 < 2147483648 by omega) (by decide)).mp z) (show ¬ v 0 0 < 30 by omega)), if_pos (by rw [c30]; rfl)]
      refine mj_two.x (mx_wrong (k := 5) TX h9) (fun v1 ⟨w1, w2⟩ => ?_)
      refine mj_two.m (mi_fails (k := 5) TM) (fun v2 ⟨w3, w4⟩ => ?_)
      rw [w1, w3]
      exact mj_two.xs mk_bo0 (mj_two.ms mk_bo0 (mj_two.ret (mj_GR.f (mj_fv_nz (k := 5) (b := b) (by omega) (by omega) (by omega)) mj_gx.rf mj_gm.rf w2 w4)))
    · have n3 : v 0 0 < 30 := by omega
      rw [if_pos ((mn_ltl (b := 30) (show v 0 0 < 2147483648 by omega) (by decide)).mpr n3), if_neg (fun z => c30 ((mn_eql (b := 30) (show v 0 0 < 4294967296 by omega) (by decide)).mp z))]
      refine mj_two.x (mx_ttake hs TX) (fun v7 ⟨x1, x2⟩ => ?_)
      refine mj_two.m (mi_ttake hs TM) (fun v24 ⟨y1, y2⟩ => ?_)
      generalize mk_ntk s b = b1 at *
      have m5 : v24.1 293 5 = Int32.ofNat (v 0 0) := by rw [y1.1.e1 (c := 293) (by decide)]; exact LM.1
      rw [m5, mn_ladd 150]
      have ixa : mm_ix (Int32.ofNat (OfNat.ofNat 150 + v 0 0)) 180 = some (150 + v 0 0) := mn_ix (show 150 + v 0 0 < 180 by omega) (by omega)
      refine mj_two.ml (mj_two.ms ixa (mj_two.ml ?_))
      have x9 : v7.1 33 9 = 0 := x1.2.2.trans h9
      have LX1 := LX.cr x1.1 (fun j z => by omega)
      have gX1 : mj_gx hX v7 := x1.gx
      have gM1 : mj_gm (150 + v 0 0) hM (mm_pI v24 294 (150 + v 0 0) (Int32.ofNat d)) := y1.gm.tr (mj_gm.c (by omega) (by omega))
      have TM1 : mk_TKM s b1 (mm_pI v24 294 (150 + v 0 0) (Int32.ofNat d)) := y2.cell ⟨by omega, by omega⟩
      have a294 : (mm_pI v24 294 (150 + v 0 0) (Int32.ofNat d)).1 294 (150 + v 0 0) = Int32.ofNat d := by rw [mp_I1, if_pos ⟨rfl, rfl⟩]
      have a293 : (mm_pI v24 294 (150 + v 0 0) (Int32.ofNat d)).1 293 5 = Int32.ofNat (v 0 0) := by rw [mp_I1, if_neg (by omega)]; exact m5
      revert gM1 TM1 a294 a293
      generalize mm_pI v24 294 (150 + v 0 0) (Int32.ofNat d) = h29
      intro gM1 TM1 a294 a293
      by_cases d3 : d = 3
      · -- quarter
        subst d3
        rw [if_pos (by rw [wo]), if_neg (show ¬ Int32.ofNat 3 = 0 by decide), if_neg (show ¬ Int32.ofNat 3 = 1 by decide), if_neg (show ¬ Int32.ofNat 3 = 2 by decide)]
        refine mj_two.x (mx_addLine LX1 n3 3 0 0 0) (fun v34 ⟨k1, k2⟩ => ?_)
        have k1' := mj_gx.ch k1 (fun c z => by omega)
        have TX34 : mk_TKX s b1 v34 := x2.ch54 k1
        exact mj_gend (d := 3) (w := 0) (x := 0) (y := 0) hs (by omega) (fun h => rfl) (fun h => rfl) (gX1.tr k1') gM1 TX34 (by rw [k1.e1 (c := 33) (by omega)]; exact x9) TM1 LM a293 a294 (fun z => absurd rfl z) (fun z => absurd z (by omega)) (fun z => absurd z (by omega)) (k2 3 0 0 0 rfl rfl rfl rfl) (mj_LW_push LW n3 (by omega) (fun z => absurd rfl z) (fun z => absurd z (by omega)) (fun z => absurd z (by omega)))
      · have d2 : d = 0 ∨ d = 1 ∨ d = 2 := by omega
        have b1l := x2.1
        have NX7 := NX.gx ht gX1
        have NM29 := NM.gm gM1
        have wn14 : ¬ mk_wo s b = some 14 := fun z => by rw [wo] at z; have := Option.some.inj z; omega
        rw [if_neg wn14]
        by_cases tf : mj_tf nP P s b1 = 0
        · obtain ⟨isn, fl⟩ := mj_tf_0 tf
          have bs1 := (mk_kd_1 isn.1).1
          have en1 := mk_en_lt bs1
          have nt1 := mk_ntk_le (s := s) (b := b1) b1l
          refine mj_two.x (mj_takeTold1 (nm := nP) (N := P) (x2 := 1) hs tt (by omega) x2 (mj_findTold1 (nm := nP) tt (by omega) x2 tf (fun k => mj_FP tt hP oP NX7.1 x2 k)) fl) (fun v9 ⟨q1, q2, q3⟩ => ?_)
          rw [q1, if_neg (mn_nn1 (by omega))]
          have nP1 := mi_needsP1 (r := 0) (by omega) hP oP NM29.1 TM1 tf
          have g5a : ∀ (h : mm_H) (z : Int32), (mm_pI h 261 41 z).1 261 41 = z := fun h z => by rw [mp_I1, if_pos ⟨rfl, rfl⟩]
          generalize mj_fd nP P s b1 = w1 at *
          -- the reference behind the first person
          have gM5 : mj_gm (150 + v 0 0) hM (mm_pI (mm_pI h29 261 41 (Int32.ofNat w1)) 295 (150 + v 0 0) (Int32.ofNat w1)) := (gM1.tr mj_gm.g).tr (mj_gm.c (by omega) (by omega))
          have TM5 : mk_TKM s b1 (mm_pI (mm_pI h29 261 41 (Int32.ofNat w1)) 295 (150 + v 0 0) (Int32.ofNat w1)) := (TM1.g41 (v := Int32.ofNat w1) (j := 41) (by omega)).cell ⟨by omega, by omega⟩
          have a5 : (mm_pI (mm_pI h29 261 41 (Int32.ofNat w1)) 295 (150 + v 0 0) (Int32.ofNat w1)).1 293 5 = Int32.ofNat (v 0 0) ∧ (mm_pI (mm_pI h29 261 41 (Int32.ofNat w1)) 295 (150 + v 0 0) (Int32.ofNat w1)).1 294 (150 + v 0 0) = Int32.ofNat d ∧ (mm_pI (mm_pI h29 261 41 (Int32.ofNat w1)) 295 (150 + v 0 0) (Int32.ofNat w1)).1 295 (150 + v 0 0) = Int32.ofNat w1 := by
            refine ⟨?_, ?_, ?_⟩
            · rw [mp_I1, if_neg (by omega), mp_I1, if_neg (by omega)]; exact a293
            · rw [mp_I1, if_neg (by omega), mp_I1, if_neg (by omega)]; exact a294
            · rw [mp_I1, if_pos ⟨rfl, rfl⟩]
          have gX9 := gX1.tr q2.gx
          have LX9 := LX1.cr q2.1 (fun j z => by omega)
          have x99 : v9.2.1 33 9 = 0 := q2.2.2.trans x9
          rcases d2 with rfl | rfl | rfl
          · -- tell
            rw [if_neg (fun z => by rw [wo] at z; exact absurd z (by decide)), if_pos (by rw [wo]), if_pos (show Int32.ofNat 0 = 0 from rfl)]
            unfold f_Go_readTell f_M_readsTelling
            rw [if_pos ⟨tt, mj_t54.1⟩]
            refine mj_two.ma (mj_two.ms nP1 ?_)
            dsimp only
            rw [if_neg (show ¬ (1 : Int32) = 0 by decide), g5a]
            refine mj_two.ma (mj_two.ms ixa (mj_two.mla ?_))
            revert gM5 TM5 a5
            generalize mm_pI (mm_pI h29 261 41 (Int32.ofNat w1)) 295 (150 + v 0 0) (Int32.ofNat w1) = h5
            intro gM5 TM5 a5
            refine mj_two.ma (mj_two.m (mi_ttake hs TM5) (fun v8 ⟨z1, z2⟩ => ?_))
            generalize mk_ntk s b1 = b2 at *
            have b2l := q3.1
            have gM8 := gM5.tr z1.gm
            have a8 : v8.1 293 5 = Int32.ofNat (v 0 0) ∧ v8.1 294 (150 + v 0 0) = Int32.ofNat 0 ∧ v8.1 295 (150 + v 0 0) = Int32.ofNat w1 := by
              rw [z1.1.e1 (c := 293) (by decide), z1.1.e1 (c := 294) (by decide), z1.1.e1 (c := 295) (by decide)]; exact a5
            have NX9 := NX.gx ht gX9
            have NM8 := NM.gm gM8
            refine mj_two.xa ?_
            by_cases tg : mj_tf nP P s b2 = 0
            · obtain ⟨isn2, fl2⟩ := mj_tf_0 tg
              have bs2 := (mk_kd_1 isn2.1).1
              have en2 := mk_en_lt bs2
              have nt2 := mk_ntk_le (s := s) (b := b2) b2l
              refine mj_two.xs (mj_findTold1 (nm := nP) (x2 := 1) tt (by omega) q3 tg (fun k => mj_FP tt hP oP NX9.1 q3 k)) ?_
              refine mj_two.ma (mj_two.ms (mi_needsP1 (r := 0) (by omega) hP oP NM8.1 z2 tg) ?_)
              dsimp only
              rw [if_neg (mn_nn1 (by omega)), if_neg (show ¬ (1 : Int32) = 0 by decide), g5a]
              generalize mj_fd nP P s b2 = w2 at *
              refine mj_two.ma (mj_two.ms ixa (mj_two.mla ?_))
              have gM13 : mj_gm (150 + v 0 0) hM (mm_pI (mm_pI v8 261 41 (Int32.ofNat w2)) 296 (150 + v 0 0) (Int32.ofNat w2)) := (gM8.tr mj_gm.g).tr (mj_gm.c (by omega) (by omega))
              have TM13 : mk_TKM s b2 (mm_pI (mm_pI v8 261 41 (Int32.ofNat w2)) 296 (150 + v 0 0) (Int32.ofNat w2)) := (z2.g41 (v := Int32.ofNat w2) (j := 41) (by omega)).cell ⟨by omega, by omega⟩
              have a13 : (mm_pI (mm_pI v8 261 41 (Int32.ofNat w2)) 296 (150 + v 0 0) (Int32.ofNat w2)).1 293 5 = Int32.ofNat (v 0 0) ∧ (mm_pI (mm_pI v8 261 41 (Int32.ofNat w2)) 296 (150 + v 0 0) (Int32.ofNat w2)).1 294 (150 + v 0 0) = Int32.ofNat 0 ∧ (mm_pI (mm_pI v8 261 41 (Int32.ofNat w2)) 296 (150 + v 0 0) (Int32.ofNat w2)).1 295 (150 + v 0 0) = Int32.ofNat w1 ∧ (mm_pI (mm_pI v8 261 41 (Int32.ofNat w2)) 296 (150 + v 0 0) (Int32.ofNat w2)).1 296 (150 + v 0 0) = Int32.ofNat w2 := by
                refine ⟨?_, ?_, ?_, ?_⟩
                · rw [mp_I1, if_neg (by omega), mp_I1, if_neg (by omega)]; exact a8.1
                · rw [mp_I1, if_neg (by omega), mp_I1, if_neg (by omega)]; exact a8.2.1
                · rw [mp_I1, if_neg (by omega), mp_I1, if_neg (by omega)]; exact a8.2.2
                · rw [mp_I1, if_pos ⟨rfl, rfl⟩]
              revert gM13 TM13 a13
              generalize mm_pI (mm_pI v8 261 41 (Int32.ofNat w2)) 296 (150 + v 0 0) (Int32.ofNat w2) = h13
              intro gM13 TM13 a13
              refine mj_two.ma (mj_two.ms ixa (mj_two.ma (mj_two.ms ixa ?_)))
              rw [a13.2.2.1, a13.2.2.2]
              by_cases ew : w1 = w2
              · rw [if_pos (by rw [ew]), if_pos (by rw [ew])]
                refine mj_two.xa (mj_two.x (mx_wrong (k := 3) q3 x99) (fun v18 ⟨o1, o2⟩ => ?_))
                refine mj_two.ma (mj_two.m (mi_fails (k := 3) TM13) (fun v33 ⟨o3, o4⟩ => ?_))
                rw [o1, o3]
                refine mj_two.xa (mj_two.xs mk_bo0 (mj_two.xs rfl (mj_two.xs mk_bo0 ?_)))
                refine mj_two.ma (mj_two.ms mk_bo0 (mj_two.ms rfl ?_))
                dsimp only
                rw [if_pos (show (0 : Int32) = 0 from rfl)]
                exact mj_two.ret (mj_GR.f (mj_fv_nz (k := 3) (b := b2) (by omega) (by omega) (by omega)) gX9 gM13 o2 o4)
              · rw [if_neg (fun z => ew ((mn_eq (by omega) (by omega)).mp z).symm), if_neg (fun z => ew ((mn_eq (by omega) (by omega)).mp z))]
                refine mj_two.xa (mj_two.x (mx_ttake hs q3) (fun v4 ⟨p1, p2⟩ => ?_))
                refine mj_two.ma (mj_two.m (mi_ttake hs TM13) (fun v20 ⟨p3, p4⟩ => ?_))
                generalize mk_ntk s b2 = b3 at *
                have b3l := p2.1
                have gX4 := gX9.tr p1.gx
                have LX4 := LX9.cr p1.1 (fun j z => by omega)
                have x94 : v4.1 33 9 = 0 := p1.2.2.trans x99
                have gM20 := gM13.tr p3.gm
                have a20 : v20.1 293 5 = Int32.ofNat (v 0 0) ∧ v20.1 294 (150 + v 0 0) = Int32.ofNat 0 ∧ v20.1 295 (150 + v 0 0) = Int32.ofNat w1 ∧ v20.1 296 (150 + v 0 0) = Int32.ofNat w2 := by
                  rw [p3.1.e1 (c := 293) (by decide), p3.1.e1 (c := 294) (by decide), p3.1.e1 (c := 295) (by decide), p3.1.e1 (c := 296) (by decide)]; exact a13
                have NX4 := NX.gx ht gX4
                have NM20 := NM.gm gM20
                by_cases th : mj_tf nS S s b3 = 0
                · obtain ⟨isn3, fl3⟩ := mj_tf_0 th
                  have bs3 := (mk_kd_1 isn3.1).1
                  have en3 := mk_en_lt bs3
                  have nt3 := mk_ntk_le (s := s) (b := b3) b3l
                  refine mj_two.xa (mj_two.x (mj_takeTold1 (nm := nS) (N := S) (x2 := 0) hs tt hS p2 (mj_findTold1 (nm := nS) tt hS p2 th (fun k => mj_FS tt hS oS NX4.2 p2 k)) fl3) (fun v6 ⟨r1, r2, r3⟩ => ?_))
                  refine mj_two.ma (mj_two.ms (mi_needsS1 (r := 0) (by omega) hS oS NM20.2 p4 th) ?_)
                  dsimp only
                  rw [r1, if_neg (show ¬ (1 : Int32) = 0 by decide), g5a]
                  generalize mj_fd nS S s b3 = w3 at *
                  refine mj_two.ma (mj_two.ms ixa (mj_two.mla ?_))
                  have gM25 : mj_gm (150 + v 0 0) hM (mm_pI (mm_pI v20 261 41 (Int32.ofNat w3)) 297 (150 + v 0 0) (Int32.ofNat w3)) := (gM20.tr mj_gm.g).tr (mj_gm.c (by omega) (by omega))
                  have TM25 : mk_TKM s b3 (mm_pI (mm_pI v20 261 41 (Int32.ofNat w3)) 297 (150 + v 0 0) (Int32.ofNat w3)) := (p4.g41 (v := Int32.ofNat w3) (j := 41) (by omega)).cell ⟨by omega, by omega⟩
                  have a25 : (mm_pI (mm_pI v20 261 41 (Int32.ofNat w3)) 297 (150 + v 0 0) (Int32.ofNat w3)).1 293 5 = Int32.ofNat (v 0 0) ∧ (mm_pI (mm_pI v20 261 41 (Int32.ofNat w3)) 297 (150 + v 0 0) (Int32.ofNat w3)).1 294 (150 + v 0 0) = Int32.ofNat 0 ∧ (mm_pI (mm_pI v20 261 41 (Int32.ofNat w3)) 297 (150 + v 0 0) (Int32.ofNat w3)).1 295 (150 + v 0 0) = Int32.ofNat w1 ∧ (mm_pI (mm_pI v20 261 41 (Int32.ofNat w3)) 297 (150 + v 0 0) (Int32.ofNat w3)).1 296 (150 + v 0 0) = Int32.ofNat w2 ∧ (mm_pI (mm_pI v20 261 41 (Int32.ofNat w3)) 297 (150 + v 0 0) (Int32.ofNat w3)).1 297 (150 + v 0 0) = Int32.ofNat w3 := by
                    refine ⟨?_, ?_, ?_, ?_, ?_⟩
                    · rw [mp_I1, if_neg (by omega), mp_I1, if_neg (by omega)]; exact a20.1
                    · rw [mp_I1, if_neg (by omega), mp_I1, if_neg (by omega)]; exact a20.2.1
                    · rw [mp_I1, if_neg (by omega), mp_I1, if_neg (by omega)]; exact a20.2.2.1
                    · rw [mp_I1, if_neg (by omega), mp_I1, if_neg (by omega)]; exact a20.2.2.2
                    · rw [mp_I1, if_pos ⟨rfl, rfl⟩]
                  revert gM25 TM25 a25
                  generalize mm_pI (mm_pI v20 261 41 (Int32.ofNat w3)) 297 (150 + v 0 0) (Int32.ofNat w3) = h25
                  intro gM25 TM25 a25
                  refine mj_two.ma (mj_two.m (mi_ttake hs TM25) (fun v28 ⟨t1, t2⟩ => ?_))
                  refine mj_two.ms rfl ?_
                  dsimp only
                  rw [if_neg (show ¬ (1 : Int32) = 0 by decide)]
                  have LX6 := LX4.cr r2.1 (fun j z => by omega)
                  have x96 : v6.2.1 33 9 = 0 := r2.2.2.trans x94
                  rw [if_neg (mn_nn1 (show w3 < 1000 by omega))]
                  refine mj_two.xa (mj_two.x (mx_addLine LX6 n3 0 (Int32.ofNat w1) (Int32.ofNat w2) (Int32.ofNat w3)) (fun v8' ⟨k1, k2⟩ => ?_))
                  refine mj_two.xa ?_
                  refine mj_gend (b1 := mk_ntk s b3) (d := 0) (w := w1) (x := w2) (y := w3) hs (by omega) (fun h => rfl) (fun h => rfl) ((gX4.tr r2.gx).tr (mj_gx.ch k1 (fun c z => by omega))) (gM25.tr t1.gm) (r3.ch54 k1) (by rw [k1.e1 (c := 33) (by omega)]; exact x96) t2 LM ?_ ?_ (fun _ => ?_) (fun _ => ?_) (fun _ => ?_) (k2 0 w1 w2 w3 rfl rfl rfl rfl) (mj_LW_push LW n3 (by omega) (fun _ => by omega) (fun _ => ⟨by omega, ew, by omega⟩) (fun z => absurd z (by omega)))
                  · rw [t1.1.e1 (c := 293) (by decide)]; exact a25.1
                  · rw [t1.1.e1 (c := 294) (by decide)]; exact a25.2.1
                  · rw [t1.1.e1 (c := 295) (by decide)]; exact a25.2.2.1
                  · rw [t1.1.e1 (c := 296) (by decide)]; exact a25.2.2.2.1
                  · rw [t1.1.e1 (c := 297) (by decide)]; exact a25.2.2.2.2
                · refine mj_two.xa (mj_two.x (mj_takeTold0 (v0 := mk_fv (mj_tf nS S s b3) b3) (x2 := 0) tt (mj_findTold0 (nm := nS) (N := S) tt p2 x94 th (fun k => mj_FS tt hS oS NX4.2 p2 k))) (fun v6 ⟨r1, r2⟩ => ?_))
                  refine mj_two.ma (mj_two.m (mi_needsS0 (r := 0) (by omega) hS oS NM20.2 p4 th) (fun v22 ⟨r3, r4⟩ => ?_))
                  rw [r1, r3, if_pos rfl, if_pos rfl]
                  refine mj_two.xs rfl (mj_two.xs mk_bo0 (mj_two.ms rfl ?_))
                  dsimp only
                  rw [if_pos (show (0 : Int32) = 0 from rfl)]
                  exact mj_two.ret (mj_GR.f (mj_tf_nz (by omega) th) gX4 gM20 r2 r4)
            · refine mj_two.x (mj_findTold0 (nm := nP) (N := P) (x2 := 1) tt q3 x99 tg (fun k => mj_FP tt hP oP NX9.1 q3 k)) (fun v2 ⟨o1, o2⟩ => ?_)
              refine mj_two.ma (mj_two.m (mi_needsP0 (r := 0) (by omega) hP oP NM8.1 z2 tg) (fun v10 ⟨o3, o4⟩ => ?_))
              rw [o1, o3, if_pos rfl, if_pos rfl]
              refine mj_two.xs rfl (mj_two.xs mk_bo0 (mj_two.ms rfl ?_))
              dsimp only
              rw [if_pos (show (0 : Int32) = 0 from rfl)]
              exact mj_two.ret (mj_GR.f (mj_tf_nz (by omega) tg) gX9 gM8 o2 o4)
          · -- pay
            rw [if_neg (fun z => by rw [wo] at z; exact absurd z (by decide)), if_neg (fun z => by rw [wo] at z; exact absurd z (by decide)), if_neg (show ¬ Int32.ofNat 1 = 0 by decide), if_pos (show Int32.ofNat 1 = 1 from rfl)]
            unfold f_Go_readPay f_M_readsPayment
            rw [if_pos ⟨tt, mj_t54.1⟩]
            refine mj_two.ma (mj_two.ms nP1 ?_)
            dsimp only
            rw [if_neg (show ¬ (1 : Int32) = 0 by decide), g5a]
            refine mj_two.ma (mj_two.ms ixa (mj_two.mla ?_))
            revert gM5 TM5 a5
            generalize mm_pI (mm_pI h29 261 41 (Int32.ofNat w1)) 295 (150 + v 0 0) (Int32.ofNat w1) = h5
            intro gM5 TM5 a5
            refine mj_two.ma (mj_two.ms ixa (mj_two.mla ?_))
            have gM9 : mj_gm (150 + v 0 0) hM (mm_pI h5 297 (150 + v 0 0) 0) := gM5.tr (mj_gm.c (by omega) (by omega))
            have TM9 : mk_TKM s b1 (mm_pI h5 297 (150 + v 0 0) 0) := TM5.cell ⟨by omega, by omega⟩
            have a9 : (mm_pI h5 297 (150 + v 0 0) 0).1 293 5 = Int32.ofNat (v 0 0) ∧ (mm_pI h5 297 (150 + v 0 0) 0).1 294 (150 + v 0 0) = Int32.ofNat 1 ∧ (mm_pI h5 297 (150 + v 0 0) 0).1 295 (150 + v 0 0) = Int32.ofNat w1 ∧ (mm_pI h5 297 (150 + v 0 0) 0).1 297 (150 + v 0 0) = 0 := by
              refine ⟨?_, ?_, ?_, ?_⟩
              · rw [mp_I1, if_neg (by omega)]; exact a5.1
              · rw [mp_I1, if_neg (by omega)]; exact a5.2.1
              · rw [mp_I1, if_neg (by omega)]; exact a5.2.2
              · rw [mp_I1, if_pos ⟨rfl, rfl⟩]
            revert gM9 TM9 a9
            generalize mm_pI h5 297 (150 + v 0 0) 0 = h9'
            intro gM9 TM9 a9
            refine mj_two.ma (mj_two.m (mi_ttake hs TM9) (fun v12 ⟨z1, z2⟩ => ?_))
            generalize mk_ntk s b1 = b2 at *
            have b2l := q3.1
            have gM12 := gM9.tr z1.gm
            have a12 : v12.1 293 5 = Int32.ofNat (v 0 0) ∧ v12.1 294 (150 + v 0 0) = Int32.ofNat 1 ∧ v12.1 295 (150 + v 0 0) = Int32.ofNat w1 ∧ v12.1 297 (150 + v 0 0) = 0 := by
              rw [z1.1.e1 (c := 293) (by decide), z1.1.e1 (c := 294) (by decide), z1.1.e1 (c := 295) (by decide), z1.1.e1 (c := 297) (by decide)]; exact a9
            have NX9 := NX.gx ht gX9
            have NM12 := NM.gm gM12
            refine mj_two.xa (mj_two.both (mj_set (b := b2) (N := S) (a0 := t) (cell := 297) (k := 150 + v 0 0) (x2 := 0) (nm := nS) hs tt hS ⟨by omega, by omega⟩ ixa (fun b h' k T e => mj_FS tt hS oS (NX9.gx ht k.gx).2 T e) (fun b h' k T e => mi_needsS1 (r := 0) (by omega) hS oS (NM12.gm k.gm).2 T e) (fun b h' k T e => mi_needsS0 (r := 0) (by omega) hS oS (NM12.gm k.gm).2 T e) q3 x99 z2 a12.2.2.2) (fun a c R => ?_))
            obtain ⟨a1, a2⟩ := a
            obtain ⟨c1, c2⟩ := c
            rcases R with ⟨f, nz, r1, r2, r3, r4⟩ | ⟨g, b', g0, gl, lt, is', r1, r2, r3, r4, r5, r6, r7⟩
            · obtain rfl : a1 = -1 := r1
              obtain rfl : c1 = 0 := r2
              dsimp only
              rw [if_pos rfl, if_pos rfl]
              refine mj_two.xs rfl (mj_two.xs mk_bo0 ?_)
              exact mj_two.ret (Or.inl ⟨f, nz, rfl, rfl, r3.2.2, r4.2.2.2, gX9.tr r3.gx, gM12.tr r4.gm⟩)
            · obtain rfl : a1 = Int32.ofNat g := r1
              obtain rfl : c1 = 1 := r4
              have g1k : g < 1024 := mk_s2 hS gl
              have LXa := LX9.cr r2.1 (fun j z => by omega)
              dsimp only
              rw [if_neg (mn_nn (show g < 2147483648 by omega)), if_neg (show ¬ (1 : Int32) = 0 by decide)]
              refine mj_two.xa (mj_two.x (mx_addLine LXa n3 1 (Int32.ofNat w1) 0 (Int32.ofNat g)) (fun v4 ⟨k1, k2⟩ => ?_))
              refine mj_two.xs rfl (mj_two.xs mk_bo1 (mj_two.ml ?_))
              have e5 : c2.1 293 5 = Int32.ofNat (v 0 0) := by rw [r5.1.e1 (c := 293) (by decide)]; exact a12.1
              rw [e5, show Int32.ofNat (v 0 0) + 1 = Int32.ofNat (v 0 0 + 1) from mn_addl 1 _]
              refine mj_two.m (mi_closes1 hs (r6.cell (c := 293) (j := 5) (v := Int32.ofNat (v 0 0 + 1)) ⟨by omega, by omega⟩) is') (fun v37 ⟨o1, o2, o3⟩ => ?_)
              rw [o1]
              have nt' := mk_ntk_le (s := s) (b := b') r6.1
              have nte := (mk_en_le (s := s) (b := b') r6.1).1
              refine mj_two.ms mk_bo1 (mj_two.ret (Or.inr ⟨mk_ntk s b', mj_push v 1 w1 0 g, by omega, rfl, rfl, (gX9.tr r2.gx).tr (mj_gx.ch k1 (fun c z => by omega)), ((gM12.tr r5.gm).tr mj_gm.n).tr o2.gm, r3.ch54 k1, ?_, o3, k2 1 w1 0 g rfl rfl rfl rfl, ?_, mj_LW_push LW n3 (by omega) (fun _ => by omega) (fun z => absurd z (by omega)) (fun _ => ⟨g0, gl⟩)⟩))
              · rw [k1.e1 (c := 33) (by omega)]; exact r2.2.2.trans x99
              · refine mj_LM_push LM (((gM12.tr r5.gm).tr mj_gm.n).tr o2.gm) ?_ ?_ (fun n => ?_) (fun n => absurd n (by omega)) (fun n => ?_)
                · rw [o2.1.e1 (c := 293) (by decide), mp_I1, if_pos ⟨rfl, rfl⟩]
                · rw [o2.1.e1 (c := 294) (by decide), mp_I1, if_neg (by omega), r5.1.e1 (c := 294) (by decide)]; exact a12.2.1
                · rw [o2.1.e1 (c := 295) (by decide), mp_I1, if_neg (by omega), r5.1.e1 (c := 295) (by decide)]; exact a12.2.2.1
                · rw [o2.1.e1 (c := 297) (by decide), mp_I1, if_neg (by omega)]; exact r7
          · -- rise
            rw [if_pos (by rw [wo]), if_neg (show ¬ Int32.ofNat 2 = 0 by decide), if_neg (show ¬ Int32.ofNat 2 = 1 by decide), if_pos (show Int32.ofNat 2 = 2 from rfl)]
            unfold f_M_readsRise
            refine mj_two.ma (mj_two.ms nP1 ?_)
            dsimp only
            rw [if_neg (show ¬ (1 : Int32) = 0 by decide), g5a]
            refine mj_two.ma (mj_two.ms ixa (mj_two.mla ?_))
            revert gM5 TM5 a5
            generalize mm_pI (mm_pI h29 261 41 (Int32.ofNat w1)) 295 (150 + v 0 0) (Int32.ofNat w1) = h5
            intro gM5 TM5 a5
            refine mj_two.ma (mj_two.m (mi_ttake hs TM5) (fun v8 ⟨z1, z2⟩ => ?_))
            refine mj_two.ms rfl ?_
            dsimp only
            rw [if_neg (show ¬ (1 : Int32) = 0 by decide)]
            refine mj_two.x (mx_addLine LX9 n3 2 (Int32.ofNat w1) 0 0) (fun v22 ⟨k1, k2⟩ => ?_)
            refine mj_gend (b1 := mk_ntk s b1) (d := 2) (w := w1) (x := 0) (y := 0) hs (by omega) (fun h => rfl) (fun h => rfl) (gX9.tr (mj_gx.ch k1 (fun c z => by omega))) (gM5.tr z1.gm) (q3.ch54 k1) (by rw [k1.e1 (c := 33) (by omega)]; exact x99) z2 LM ?_ ?_ (fun _ => ?_) (fun z => absurd z (by omega)) (fun z => absurd z (by omega)) (k2 2 w1 0 0 rfl rfl rfl rfl) (mj_LW_push LW n3 (by omega) (fun _ => by omega) (fun z => absurd z (by omega)) (fun z => absurd z (by omega)))
            · rw [z1.1.e1 (c := 293) (by decide)]; exact a5.1
            · rw [z1.1.e1 (c := 294) (by decide)]; exact a5.2.1
            · rw [z1.1.e1 (c := 295) (by decide)]; exact a5.2.2
        · refine mj_two.x (mj_takeTold0 (v0 := mk_fv (mj_tf nP P s b1) b1) (x2 := 1) tt (mj_findTold0 (nm := nP) (N := P) tt x2 x9 tf (fun k => mj_FP tt hP oP NX7.1 x2 k))) (fun v9 ⟨q1, q2⟩ => ?_)
          rw [q1, if_pos rfl]
          have nP0 := mi_needsP0 (r := 0) (by omega) hP oP NM29.1 TM1 tf
          have nz := mj_tf_nz (nm := nP) (N := P) (s := s) (b := b1) (by omega) tf
          rcases d2 with rfl | rfl | rfl
          · rw [if_pos (show Int32.ofNat 0 = 0 from rfl)]
            unfold f_M_readsTelling
            refine mj_two.ma (mj_two.m nP0 (fun v2 ⟨o1, o2⟩ => ?_))
            rw [o1, if_pos rfl]
            refine mj_two.ms rfl ?_
            dsimp only
            rw [if_pos (show (0 : Int32) = 0 from rfl)]
            exact mj_two.ret (mj_GR.f nz gX1 gM1 q2 o2)
          · rw [if_neg (show ¬ Int32.ofNat 1 = 0 by decide), if_pos (show Int32.ofNat 1 = 1 from rfl)]
            unfold f_M_readsPayment
            refine mj_two.ma (mj_two.m nP0 (fun v2 ⟨o1, o2⟩ => ?_))
            rw [o1, if_pos rfl]
            refine mj_two.ms rfl ?_
            dsimp only
            rw [if_pos (show (0 : Int32) = 0 from rfl)]
            exact mj_two.ret (mj_GR.f nz gX1 gM1 q2 o2)
          · rw [if_neg (show ¬ Int32.ofNat 2 = 0 by decide), if_neg (show ¬ Int32.ofNat 2 = 1 by decide), if_pos (show Int32.ofNat 2 = 2 from rfl)]
            unfold f_M_readsRise
            refine mj_two.ma (mj_two.m nP0 (fun v2 ⟨o1, o2⟩ => ?_))
            rw [o1, if_pos rfl]
            refine mj_two.ms rfl ?_
            dsimp only
            rw [if_pos (show (0 : Int32) = 0 from rfl)]
            exact mj_two.ret (mj_GR.f nz gX1 gM1 q2 o2)
  · have no : ∀ e, e < 4 → ¬ mk_isw s b (11 + e) := fun e he z => w0 ⟨e, he, z⟩
    have chX : ∀ (K W : Option (Int32 × mm_H)), (if mk_wo s b = some 11 then K else if mk_wo s b = some 12 then K else if mk_wo s b = some 13 then K else if mk_wo s b = some 14 then K else W) = W := by
      intro K W
      rw [if_neg (fun z => no 0 (by omega) ((mk_wo_iff (by omega)).mp z)), if_neg (fun z => no 1 (by omega) ((mk_wo_iff (by omega)).mp z)), if_neg (fun z => no 2 (by omega) ((mk_wo_iff (by omega)).mp z)), if_neg (fun z => no 3 (by omega) ((mk_wo_iff (by omega)).mp z))]
    rw [chX]
    have i0 : f_M_isWord 397641 hM = some 0 := (mi_isWord (i := 11) TM (by omega)).2 (no 0 (by omega))
    have i1 : f_M_isWord 11716 hM = some 0 := (mi_isWord (i := 12) TM (by omega)).2 (no 1 (by omega))
    have i2 : f_M_isWord 361373 hM = some 0 := (mi_isWord (i := 13) TM (by omega)).2 (no 2 (by omega))
    have i3 : f_M_isWord 6888375828 hM = some 0 := (mi_isWord (i := 14) TM (by omega)).2 (no 3 (by omega))
    refine mj_two.ms i0 ?_
    refine mj_two.ms (v := -1) ?_ ?_
    · rw [if_pos rfl, mk_bs i1, if_pos rfl, mk_bs i2, if_pos rfl, mk_bs i3]; exact if_pos rfl
    rw [if_neg (show ¬ (0 : Int32) ≤ -1 by decide)]
    refine mj_two.x (mx_wrong (k := 1) TX h9) (fun v1 ⟨w1, w2⟩ => ?_)
    refine mj_two.m (mi_fails (k := 1) TM) (fun v2 ⟨w3, w4⟩ => ?_)
    rw [w1, w3]
    exact mj_two.xs mk_bo0 (mj_two.ms mk_bo0 (mj_two.ret (mj_GR.f (mj_fv_nz (k := 1) (b := b) (by omega) (by omega) (by omega)) mj_gx.rf mj_gm.rf w2 w4)))
