/-! town: two names, an ear's line -/
theorem mj_pair {s : mk_S} {b d N : Nat} {x2 : Int32} {nm : Nat → Nat → Nat} {hX hM : mm_H} {need : mm_H → Option (Int32 × mm_H)} {KX KM : Int32 → Int32 → mm_H → Option (Int32 × mm_H)} {R : Int32 × mm_H → Int32 × mm_H → Prop} (hs : mk_sgs s) (td : mm_tg d = 7) (d33 : 33 < d) (hN : N ≤ 10) (bs : b < s.1) (TX : mk_TKX s b hX) (h9 : hX.1 33 9 = 0) (TM : mk_TKM s b hM)
    (F : ∀ b h, mk_cr (fun c => c = 33) hX h → mk_TKX s b h → mk_kd s b = 1 → (if x2 = 0 then ((f_To_findSecret d (h.2.1 33 6) h).bind fun v6 => some v6) else ((f_To_findPerson d (h.2.1 33 6) h).bind fun v8 => some v8) : Option Int32) = some (mj_fv nm N s b))
    (need1 : ∀ b h, mk_ch (fun c => c = 261) hM h → mk_TKM s b h → mj_tf nm N s b = 0 → need h = some (1, mm_pI h 261 41 (Int32.ofNat (mj_fd nm N s b))))
    (need0 : ∀ b h, mk_ch (fun c => c = 261) hM h → mk_TKM s b h → ¬ mj_tf nm N s b = 0 → mk_ok (need h) (fun v => v.1 = 0 ∧ mk_FM (mk_fv (mj_tf nm N s b) b) h v.2))
    (RF : ∀ f eX eM, ¬ f = 0 → mj_tx 13 d hX eX → mj_ty 277 hM eM → eX.1 33 9 = f → eM.1 261 9 = f → R (0, eX) (0, eM))
    (RK : ∀ a c b2 gX gM, a < N → c < N → b < b2 → b2 < s.1 → mk_cr (fun c => c = 33) hX gX → gX.1 33 1 = hX.1 33 1 → gX.1 33 9 = 0 → mk_TKX s b2 gX → mk_ch (fun c => c = 261) hM gM → mj_ty 277 hM gM → mk_TKM s b2 gM → mj_two (KX (Int32.ofNat a) (Int32.ofNat c) gX) (KM (Int32.ofNat a) (Int32.ofNat c) gM) R) :
    mj_two ((f_Ta_next hX).bind fun v2 => (f_To_takeTold d x2 v2).bind fun v4 => if v4.1 = (-1) then (some (0, v4.2)) else ((f_To_findTold d x2 v4.2).bind fun v6 => if v6.1 = (-1) then (some (0, v6.2)) else KX v4.1 v6.1 v6.2)) ((f_M_nextToken hM).bind fun v2 => (need v2).bind fun v4 => if v4.1 = 0 then (some (0, v4.2)) else (mm_let (v4.2.1 261 41) fun y5 => (f_M_nextToken v4.2).bind fun v8 => (need v8).bind fun v10 => if v10.1 = 0 then (some (0, v10.2)) else (mm_let (v10.2.1 261 41) fun y11 => KM y5 y11 v10.2))) R := by
  have s1 := hs.1
  have bl := TX.1
  have nt := mk_ntk_le (s := s) (b := b) bl
  have en := mk_en_lt bs
  refine mj_two.x (mx_ttake hs TX) (fun g1 ⟨x1, x2'⟩ => ?_)
  refine mj_two.m (mi_ttake hs TM) (fun k1 ⟨y1, y2⟩ => ?_)
  generalize mk_ntk s b = b1 at *
  have x91 : g1.1 33 9 = 0 := x1.2.2.trans h9
  have F1 := F b1 g1 x1.1 x2'
  by_cases tf : mj_tf nm N s b1 = 0
  · obtain ⟨isn, fl⟩ := mj_tf_0 tf
    have bs1 := (mk_kd_1 isn.1).1
    have en1 := mk_en_lt bs1
    have nt1 := mk_ntk_le (s := s) (b := b1) x2'.1
    refine mj_two.x (mj_takeTold1 (nm := nm) (N := N) (x2 := x2) hs td hN x2' (mj_findTold1 (nm := nm) td hN x2' tf F1) fl) (fun v4 ⟨q1, q2, q3⟩ => ?_)
    refine mj_two.ms (need1 b1 k1 y1.1 y2 tf) ?_
    rw [q1, if_neg (mn_nn1 (by omega)), if_neg (show ¬ (1 : Int32) = 0 by decide)]
    refine mj_two.ml ?_
    have e41 : (mm_pI k1 261 41 (Int32.ofNat (mj_fd nm N s b1))).1 261 41 = Int32.ofNat (mj_fd nm N s b1) := by rw [mp_I1, if_pos ⟨rfl, rfl⟩]
    dsimp only
    rw [e41]
    have TM1 : mk_TKM s b1 (mm_pI k1 261 41 (Int32.ofNat (mj_fd nm N s b1))) := y2.g41 (by omega)
    have c1 : mk_ch (fun c => c = 261) hM (mm_pI k1 261 41 (Int32.ofNat (mj_fd nm N s b1))) := y1.1.tr (mk_ch.pI (D := fun c => c = 261) rfl) (fun _ z => z) (fun _ z => z)
    have t1 : mj_ty 277 hM (mm_pI k1 261 41 (Int32.ofNat (mj_fd nm N s b1))) := y1.ty.tr mj_ty.g
    revert TM1 c1 t1
    generalize mm_pI k1 261 41 (Int32.ofNat (mj_fd nm N s b1)) = k2
    intro TM1 c1 t1
    generalize mj_fd nm N s b1 = a at *
    refine mj_two.m (mi_ttake hs TM1) (fun k3 ⟨z1, z2⟩ => ?_)
    generalize mk_ntk s b1 = b2 at *
    have x94 : v4.2.1 33 9 = 0 := q2.2.2.trans x91
    have cX : mk_cr (fun c => c = 33) hX v4.2 := x1.1.tr q2.1 (fun _ z => z) (fun _ z => z)
    have cM : mk_ch (fun c => c = 261) hM k3 := c1.tr z1.1 (fun _ z => z) (fun _ z => z)
    have tM : mj_ty 277 hM k3 := t1.tr z1.ty
    have F2 := F b2 v4.2 cX q3
    by_cases tg : mj_tf nm N s b2 = 0
    · obtain ⟨isn2, fl2⟩ := mj_tf_0 tg
      refine mj_two.xs (mj_findTold1 (nm := nm) (x2 := x2) td hN q3 tg F2) ?_
      refine mj_two.ms (need1 b2 k3 cM z2 tg) ?_
      rw [if_neg (mn_nn1 (by omega)), if_neg (show ¬ (1 : Int32) = 0 by decide)]
      refine mj_two.ml ?_
      have e41' : (mm_pI k3 261 41 (Int32.ofNat (mj_fd nm N s b2))).1 261 41 = Int32.ofNat (mj_fd nm N s b2) := by rw [mp_I1, if_pos ⟨rfl, rfl⟩]
      dsimp only
      rw [e41']
      exact RK a _ b2 _ _ fl fl2 (by omega) (mk_kd_1 isn2.1).1 cX (q2.2.1.trans x1.2.1) x94 q3 (cM.tr (mk_ch.pI (D := fun c => c = 261) rfl) (fun _ z => z) (fun _ z => z)) (tM.tr mj_ty.g) (z2.g41 (by omega))
    · refine mj_two.x (mj_findTold0 (nm := nm) (N := N) (x2 := x2) td q3 x94 tg F2) (fun v6 ⟨o1, o2⟩ => ?_)
      refine mj_two.m (need0 b2 k3 cM z2 tg) (fun v10 ⟨o3, o4⟩ => ?_)
      rw [o1, o3, if_pos (show (-1 : Int32) = -1 from rfl), if_pos (show (0 : Int32) = 0 from rfl)]
      have b2l := q3.1
      exact mj_two.ret (RF _ _ _ (mj_tf_nz (by omega) tg) ((x1.tx.tr q2.tx).tr o2.tx) (tM.tr o4.ty) o2.2.2 o4.2.2)
  · refine mj_two.x (mj_takeTold0 (v0 := mk_fv (mj_tf nm N s b1) b1) (x2 := x2) td (mj_findTold0 (nm := nm) (N := N) td x2' x91 tf F1)) (fun v4 ⟨q1, q2⟩ => ?_)
    refine mj_two.m (need0 b1 k1 y1.1 y2 tf) (fun v10 ⟨o3, o4⟩ => ?_)
    rw [q1, o3, if_pos (show (-1 : Int32) = -1 from rfl), if_pos (show (0 : Int32) = 0 from rfl)]
    have b1l := x2'.1
    exact mj_two.ret (RF _ _ _ (mj_tf_nz (by omega) tf) (x1.tx.tr q2.tx) (y1.ty.tr o4.ty) q2.2.2 o4.2.2)
theorem mj_earw {A : mk_A} {n a c : Nat} {step : Int32 → Option (Int32 ⊕ (Int32 × mm_H))} (hs : ∀ e, e < n → ¬ (A 275 e = a ∧ A 276 e = c) → step (Int32.ofNat (30 + e)) = some (.inl (Int32.ofNat (30 + (e + 1))))) : ∀ m, m ≤ n → (∀ e, e < m → ¬ (A 275 e = a ∧ A 276 e = c)) → mm_while step (Int32.ofNat 30) = mm_while step (Int32.ofNat (30 + m))
  | 0, _, _ => rfl
  | m + 1, h1, h2 => (mj_earw hs m (by omega) (fun e he => h2 e (by omega))).trans (mm_while_inl (hs m (by omega) (h2 m (by omega))))
theorem mj_ear {A : mk_A} {nP nS : Nat → Nat → Nat} {s : mk_S} {b d : Nat} {hX hM : mm_H} (hs : mk_sgs s) (hd : d = 79 ∨ d = 96) (w : mk_isw s b 8) (B : mj_BT A nP nS) (bc : A 263 3 ≤ b) (bX : mj_BX A nP nS d hX) (bM : mj_BM A nP nS hM) (TX : mk_TKX s b hX) (h9 : hX.1 33 9 = 0) (TM : mk_TKM s b hM) : mj_two (f_Tr_readEar d hX) (f_M_readsEar hM) (mj_TR s b d hX hM) := by
  have td : mm_tg d = 7 := (mk_tt hd).1
  have s1 := hs.1
  have bl := TX.1
  have d33 : 33 < d := by omega
  have bs := (mk_kd_1 w.1).1
  have hP := B.T.1.1
  unfold f_Tr_readEar f_M_readsEar
  rw [if_pos td]
  refine mj_pair (N := A 263 0) (nm := nP) (need := f_M_needsPerson 1) (KX := fun a c g => mm_let ((a * 6) + c) fun y7 => mm_jp (fun (j9 : Unit) => ((f_Ta_wrong 3 g).bind fun v13 => (mm_bo v13.1).bind fun b14 => some (b14, v13.2))) fun k11 => if c = a then (k11 ()) else ((mm_ix y7 36).bind fun k16 => if (g.1 (d + 12) k16) = (-1) then (if (g.1 d 13) < 30 then ((f_Ta_next g).bind fun v19 => (f_Ta_takeNumber 0 10 v19).bind fun v21 => (mm_ix y7 36).bind fun k22 => mm_let (mm_pI v21.2 (d + 12) k22 v21.1) fun h24 => (mm_ix y7 36).bind fun k26 => if (h24.1 (d + 12) k26) = (-1) then (some (0, h24)) else ((mm_ix (h24.1 d 13) 30).bind fun k28 => mm_let (mm_pI h24 (d + 10) k28 a) fun h30 => (mm_ix (h30.1 d 13) 30).bind fun k32 => mm_let (mm_pI h30 (d + 11) k32 c) fun h34 => mm_let (mm_pI h34 d 13 ((h34.1 d 13) + 1)) fun h36 => (f_Ta_takeSign 59 h36).bind fun v39 => (mm_bo v39.1).bind fun b40 => some (b40, v39.2))) else (k11 ())) else (k11 ()))) (KM := fun y5 y11 g => if y5 = y11 then ((f_M_fails 3 g).bind fun v67 => (mm_bo v67.1).bind fun b68 => some (b68, v67.2)) else (mm_let (30 + (g.1 263 6)) fun y13 => mm_while (σ := Int32) (ρ := (Int32 × mm_H)) (fun s15 => if y13 ≤ s15 then ((f_M_nextToken g).bind fun v19 => (f_M_needsNumber 0 10 v19).bind fun v21 => if v21.1 = 0 then (some (Sum.inr (0, v21.2))) else ((mm_ix y13 60).bind fun k22 => mm_let (mm_pI v21.2 275 k22 y5) fun h24 => (mm_ix y13 60).bind fun k26 => mm_let (mm_pI h24 276 k26 y11) fun h28 => (mm_ix y13 60).bind fun k30 => mm_let (mm_pI h28 277 k30 (h28.1 261 41)) fun h32 => mm_let (mm_pI h32 263 6 ((h32.1 263 6) + 1)) fun h34 => (f_M_closes h34).bind fun v37 => (mm_bo v37.1).bind fun b38 => some (Sum.inr (b38, v37.2)))) else ((mm_ix s15 60).bind fun k43 => mm_jp (fun (j45 : Unit) => (mm_let (s15 + 1) fun y48 => some (Sum.inl y48))) fun k47 => if (g.1 275 k43) = y5 then ((mm_ix s15 60).bind fun k50 => if (g.1 276 k50) = y11 then ((f_M_fails 3 g).bind fun v53 => (mm_bo v53.1).bind fun b54 => some (Sum.inr (b54, v53.2))) else (k47 ())) else (k47 ()))) 30)) hs td d33 (by omega) bs TX h9 TM (fun b h k T e => mj_FP td hP B.oP (bX.cr k (fun j z => by omega)).NX.1 T e) (fun b h k T e => mi_needsP1 (r := 1) (by omega) hP B.oP (bM.ch k (fun j z => by omega)).NM.1 T e) (fun b h k T e => mi_needsP0 (r := 1) (by omega) hP B.oP (bM.ch k (fun j z => by omega)).NM.1 T e) (fun f eX eM nz t1 t2 f1 f2 => Or.inl ⟨f, nz, rfl, rfl, f1, f2, t1, t2⟩) ?_
  intro a c b2 gX gM ha hc lt bs2 cX cX1 g9 T2 cM tM M2
  have b2l := T2.1
  have txg : mj_tx 13 d hX gX := ⟨cX.mono (fun _ z => Or.inl z), cX1⟩
  have bX2 := bX.cr cX (fun j z => by omega)
  have bM2 := bM.ch cM (fun j z => by omega)
  have m30 := B.T.1.2.2.1
  obtain ⟨t1, t5, t6, t7, t8⟩ := B.T
  refine mj_two.xl ?_
  have y7 : Int32.ofNat a * 6 + Int32.ofNat c = Int32.ofNat (a * 6 + c) := by rw [mn_mull 6, mn_add]
  rw [y7]
  have ix7 : mm_ix (Int32.ofNat (a * 6 + c)) 36 = some (a * 6 + c) := mn_ix (by omega) (by omega)
  dsimp only [mm_jp]
  -- both fail
  have bad : ∀ oM : Option (Int32 × mm_H), oM = ((f_M_fails 3 gM).bind fun v67 => (mm_bo v67.1).bind fun b68 => some (b68, v67.2)) → mj_two ((f_Ta_wrong 3 gX).bind fun v13 => (mm_bo v13.1).bind fun b14 => some (b14, v13.2)) oM (mj_TR s b d hX hM) := by
    intro oM e
    rw [e]
    refine mj_two.x (mx_wrong (k := 3) T2 g9) (fun v9 ⟨x1, x2⟩ => ?_)
    refine mj_two.m (mi_fails (k := 3) M2) (fun w9 ⟨y1, y2⟩ => ?_)
    rw [x1, y1]
    exact mj_two.xs mk_bo0 (mj_two.ms mk_bo0 (mj_two.ret (mj_TR.f (mj_fv_nz (k := 3) (b := b2) (by omega) (by omega) (by omega)) txg tM x2 y2)))
  by_cases eq : a = c
  · rw [eq, if_pos rfl, if_pos rfl]
    exact bad _ rfl
  · rw [if_neg (fun z => eq ((mn_eq (by omega) (by omega)).mp z).symm), if_neg (fun z => eq ((mn_eq (by omega) (by omega)).mp z))]
    refine mj_two.xs ix7 ?_
    rw [bX2.tb a c (by omega) (by omega), bX2.c13, bM2.c6, mn_ladd 30]
    refine mj_two.ml ?_
    -- the reference walks over the ears told
    have stp : ∀ e, e < A 263 2 → ∀ (X : Int32 → Option (Int32 ⊕ (Int32 × mm_H))) , (if Int32.ofNat (30 + A 263 2) ≤ Int32.ofNat (30 + e) then X (Int32.ofNat (30 + e)) else ((mm_ix (Int32.ofNat (30 + e)) 60).bind fun k43 => if (gM.1 275 k43) = Int32.ofNat a then ((mm_ix (Int32.ofNat (30 + e)) 60).bind fun k50 => if (gM.1 276 k50) = Int32.ofNat c then ((f_M_fails 3 gM).bind fun v53 => (mm_bo v53.1).bind fun b54 => some (Sum.inr (b54, v53.2))) else (some (Sum.inl (Int32.ofNat (30 + e) + 1)))) else (some (Sum.inl (Int32.ofNat (30 + e) + 1))))) = if A 275 e = a ∧ A 276 e = c then ((f_M_fails 3 gM).bind fun v53 => (mm_bo v53.1).bind fun b54 => some (Sum.inr (b54, v53.2))) else some (Sum.inl (Int32.ofNat (30 + (e + 1)))) := by
      intro e he X
      obtain ⟨r1, r2, r3⟩ := bM2.ee e he
      obtain ⟨r4, r5, r6, r7⟩ := t7 e he
      have ix : mm_ix (Int32.ofNat (30 + e)) 60 = some (30 + e) := mn_ix (by omega) (by omega)
      rw [if_neg (fun z => absurd ((mn_le (by omega) (by omega)).mp z) (by omega)), mk_bs ix, r1, show Int32.ofNat (30 + e) + 1 = Int32.ofNat (30 + (e + 1)) from mn_addl 1 _]
      by_cases p1 : A 275 e = a
      · rw [if_pos (by rw [p1]), mk_bs ix, r2]
        by_cases p2 : A 276 e = c
        · rw [if_pos (by rw [p2]), if_pos ⟨p1, p2⟩]
        · rw [if_neg (fun z => p2 ((mn_eq (by omega) (by omega)).mp z)), if_neg (fun z => p2 z.2)]
      · rw [if_neg (fun z => p1 ((mn_eq (by omega) (by omega)).mp z)), if_neg (fun z => p1 z.1)]
    by_cases e0 : mk_ear A a c (A 263 2) = 0
    · -- a new pair
      obtain ⟨lt30, _⟩ := B.addE (ch := 0) ha hc eq (Nat.zero_le _) e0
      rw [e0, if_pos (show Int32.ofNat 0 - 1 = -1 by decide), if_pos ((mn_ltl (b := 30) (show A 263 2 < 2147483648 by omega) (by decide)).mpr lt30)]
      have no := (mj_ear_0 _).mp e0
      obtain ⟨X, hX'⟩ : ∃ X : Int32 → Option (Int32 ⊕ (Int32 × mm_H)), X = fun _ => ((f_M_nextToken gM).bind fun v19 => (f_M_needsNumber 0 10 v19).bind fun v21 => if v21.1 = 0 then (some (Sum.inr (0, v21.2))) else ((mm_ix (Int32.ofNat (30 + A 263 2)) 60).bind fun k22 => mm_let (mm_pI v21.2 275 k22 (Int32.ofNat a)) fun h24 => (mm_ix (Int32.ofNat (30 + A 263 2)) 60).bind fun k26 => mm_let (mm_pI h24 276 k26 (Int32.ofNat c)) fun h28 => (mm_ix (Int32.ofNat (30 + A 263 2)) 60).bind fun k30 => mm_let (mm_pI h28 277 k30 (h28.1 261 41)) fun h32 => mm_let (mm_pI h32 263 6 ((h32.1 263 6) + 1)) fun h34 => (f_M_closes h34).bind fun v37 => (mm_bo v37.1).bind fun b38 => some (Sum.inr (b38, v37.2)))) := ⟨_, rfl⟩
      have wlk := mj_earw (A := A) (n := A 263 2) (a := a) (c := c) (step := fun s15 => if Int32.ofNat (30 + A 263 2) ≤ s15 then X s15 else ((mm_ix s15 60).bind fun k43 => if (gM.1 275 k43) = Int32.ofNat a then ((mm_ix s15 60).bind fun k50 => if (gM.1 276 k50) = Int32.ofNat c then ((f_M_fails 3 gM).bind fun v53 => (mm_bo v53.1).bind fun b54 => some (Sum.inr (b54, v53.2))) else (some (Sum.inl (s15 + 1)))) else (some (Sum.inl (s15 + 1))))) (fun e he ne => (stp e he X).trans (if_neg ne)) (A 263 2) (Nat.le_refl _) no
      rw [hX'] at wlk
      refine Eq.subst (motive := fun o => mj_two _ o _) wlk.symm ?_
      refine mj_two.mw ?_
      rw [if_pos (Int32.le_refl _)]
      refine mj_two.x (mx_ttake hs T2) (fun v19 ⟨x1, x2⟩ => ?_)
      refine mj_two.m (mi_ttake hs M2) (fun w19 ⟨y1, y2⟩ => ?_)
      have nt := mk_ntk_le (s := s) (b := b2) b2l
      have en := mk_en_lt bs2
      generalize mk_ntk s b2 = b3 at *
      have x9 : v19.1 33 9 = 0 := x1.2.2.trans g9
      have far : ∀ (h : mm_H) (c j : Nat) (z : Int32), (mm_pI h c j z).1 c j = z := fun h c j z => by rw [mp_I1, if_pos ⟨rfl, rfl⟩]
      by_cases nf : mk_nf s b3 0 10 = 0
      · have k2 : mk_kd s b3 = 2 := by
          unfold mk_nf at nf
          by_cases k : mk_kd s b3 = 2
          · exact k
          · rw [if_neg k] at nf; omega
        have r10 : mk_nu s b3 ≤ 10 := by
          unfold mk_nf at nf
          rw [if_pos k2] at nf
          by_cases r : 0 ≤ mk_nu s b3 ∧ mk_nu s b3 ≤ 10
          · exact r.2
          · rw [if_neg r] at nf; omega
        have nt3 := mk_ntk_le (s := s) (b := b3) x2.1
        have en3 := (mk_en_le (s := s) (b := b3) x2.1).1
        refine mj_two.x (mx_takeNumber1 (lo := 0) (hi := 10) hs x2 (by omega) (by omega) nf) (fun v21 ⟨z1, z2, z3⟩ => ?_)
        refine mj_two.m (mi_needsNumber1 (lo := 0) (hi := 10) hs y2 (by omega) (by omega) nf) (fun w21 ⟨w1, w2, w3⟩ => ?_)
        rw [w1, if_neg (show ¬ (1 : Int32) = 0 by decide)]
        generalize mk_nu s b3 = x at *
        generalize mk_ntk s b3 = b4 at *
        obtain ⟨_, BTn⟩ := B.addE (ch := x) ha hc eq r10 e0
        have bX21 := (bX2.cr x1.1 (fun j z => by omega)).cr z2.1 (fun j z => by omega)
        have bM21 := (bM2.ch y1.1 (fun j z => by omega)).ch w2.1 (fun j z => by omega)
        have tx21 : mj_tx 13 d hX v21.2 := (txg.tr x1.tx).tr z2.tx
        have ty21 : mj_ty 277 hM w21.2 := (tM.tr y1.ty).tr w2.ty
        have x921 : v21.2.1 33 9 = 0 := z2.2.2.trans x9
        have bXn := bX21.addE (a := a) (b := c) (ch := x) (by omega) (by omega)
        have bMn := bM21.addE (a := a) (b := c) (ch := x)
        -- the class writes
        refine mj_two.xs ix7 (mj_two.xl (mj_two.xs ix7 ?_))
        rw [z1, far, if_neg (mn_nn1 (by omega))]
        have ix30 : mm_ix (Int32.ofNat (A 263 2)) 30 = some (A 263 2) := mn_ix lt30 (by omega)
        have c13 : v21.2.1 d 13 = Int32.ofNat (A 263 2) := bX21.c13
        have e1 : (mm_pI v21.2 (d + 12) (a * 6 + c) (Int32.ofNat x)).1 d 13 = Int32.ofNat (A 263 2) := by rw [mp_I1, if_neg (by omega)]; exact c13
        rw [e1]
        refine mj_two.xs ix30 (mj_two.xl ?_)
        have e2 : (mm_pI (mm_pI v21.2 (d + 12) (a * 6 + c) (Int32.ofNat x)) (d + 10) (A 263 2) (Int32.ofNat a)).1 d 13 = Int32.ofNat (A 263 2) := by rw [mp_I1, if_neg (by omega)]; exact e1
        rw [e2]
        refine mj_two.xs ix30 (mj_two.xl (mj_two.xl ?_))
        have e3 : (mm_pI (mm_pI (mm_pI v21.2 (d + 12) (a * 6 + c) (Int32.ofNat x)) (d + 10) (A 263 2) (Int32.ofNat a)) (d + 11) (A 263 2) (Int32.ofNat c)).1 d 13 = Int32.ofNat (A 263 2) := by rw [mp_I1, if_neg (by omega)]; exact e2
        rw [e3, show Int32.ofNat (A 263 2) + 1 = Int32.ofNat (A 263 2 + 1) from mn_addl 1 _]
        have TXn : mk_TKX s b4 (mm_pI (mm_pI (mm_pI (mm_pI v21.2 (d + 12) (a * 6 + c) (Int32.ofNat x)) (d + 10) (A 263 2) (Int32.ofNat a)) (d + 11) (A 263 2) (Int32.ofNat c)) d 13 (Int32.ofNat (A 263 2 + 1))) := (((z3.cell ⟨by omega, by omega⟩).cell ⟨by omega, by omega⟩).cell ⟨by omega, by omega⟩).cell ⟨by omega, by omega⟩
        have txn : mj_tx 13 d hX (mm_pI (mm_pI (mm_pI (mm_pI v21.2 (d + 12) (a * 6 + c) (Int32.ofNat x)) (d + 10) (A 263 2) (Int32.ofNat a)) (d + 11) (A 263 2) (Int32.ofNat c)) d 13 (Int32.ofNat (A 263 2 + 1))) := (((tx21.tr (mj_tx.p ⟨by omega, by omega⟩ d33)).tr (mj_tx.p ⟨by omega, by omega⟩ d33)).tr (mj_tx.p ⟨by omega, by omega⟩ d33)).tr (mj_tx.p ⟨by omega, by omega⟩ d33)
        have x9n : (mm_pI (mm_pI (mm_pI (mm_pI v21.2 (d + 12) (a * 6 + c) (Int32.ofNat x)) (d + 10) (A 263 2) (Int32.ofNat a)) (d + 11) (A 263 2) (Int32.ofNat c)) d 13 (Int32.ofNat (A 263 2 + 1))).1 33 9 = 0 := by rw [mp_I1, if_neg (by omega), mp_I1, if_neg (by omega), mp_I1, if_neg (by omega), mp_I1, if_neg (by omega)]; exact x921
        revert bXn TXn txn x9n
        generalize mm_pI (mm_pI (mm_pI (mm_pI v21.2 (d + 12) (a * 6 + c) (Int32.ofNat x)) (d + 10) (A 263 2) (Int32.ofNat a)) (d + 11) (A 263 2) (Int32.ofNat c)) d 13 (Int32.ofNat (A 263 2 + 1)) = h36
        intro bXn TXn txn x9n
        -- the reference writes
        have ix60 : mm_ix (Int32.ofNat (OfNat.ofNat 30 + A 263 2)) 60 = some (30 + A 263 2) := mn_ix (show 30 + A 263 2 < 60 by omega) (by omega)
        refine mj_two.ms ix60 (mj_two.ml (mj_two.ms ix60 (mj_two.ml (mj_two.ms ix60 (mj_two.ml (mj_two.ml ?_))))))
        have e4 : (mm_pI (mm_pI w21.2 275 (30 + A 263 2) (Int32.ofNat a)) 276 (30 + A 263 2) (Int32.ofNat c)).1 261 41 = Int32.ofNat x := by rw [mp_I1, if_neg (by omega), mp_I1, if_neg (by omega)]; exact w2.2.2
        rw [e4]
        have e5 : (mm_pI (mm_pI (mm_pI w21.2 275 (30 + A 263 2) (Int32.ofNat a)) 276 (30 + A 263 2) (Int32.ofNat c)) 277 (30 + A 263 2) (Int32.ofNat x)).1 263 6 = Int32.ofNat (A 263 2) := by rw [mp_I1, if_neg (by omega), mp_I1, if_neg (by omega), mp_I1, if_neg (by omega)]; exact bM21.c6
        rw [e5, show Int32.ofNat (A 263 2) + 1 = Int32.ofNat (A 263 2 + 1) from mn_addl 1 _]
        have TMn : mk_TKM s b4 (mm_pI (mm_pI (mm_pI (mm_pI w21.2 275 (30 + A 263 2) (Int32.ofNat a)) 276 (30 + A 263 2) (Int32.ofNat c)) 277 (30 + A 263 2) (Int32.ofNat x)) 263 6 (Int32.ofNat (A 263 2 + 1))) := (((w3.cell ⟨by omega, by omega⟩).cell ⟨by omega, by omega⟩).cell ⟨by omega, by omega⟩).cell ⟨by omega, by omega⟩
        have tyn : mj_ty 277 hM (mm_pI (mm_pI (mm_pI (mm_pI w21.2 275 (30 + A 263 2) (Int32.ofNat a)) 276 (30 + A 263 2) (Int32.ofNat c)) 277 (30 + A 263 2) (Int32.ofNat x)) 263 6 (Int32.ofNat (A 263 2 + 1))) := (((ty21.tr (mj_ty.p ⟨by omega, by omega⟩ (show 30 ≤ 30 + A 263 2 by omega))).tr (mj_ty.p ⟨by omega, by omega⟩ (show 30 ≤ 30 + A 263 2 by omega))).tr (mj_ty.p ⟨by omega, by omega⟩ (show 30 ≤ 30 + A 263 2 by omega))).tr (mj_ty.p ⟨by omega, by omega⟩ (show 4 ≤ 6 by omega))
        revert bMn TMn tyn
        generalize mm_pI (mm_pI (mm_pI (mm_pI w21.2 275 (30 + A 263 2) (Int32.ofNat a)) 276 (30 + A 263 2) (Int32.ofNat c)) 277 (30 + A 263 2) (Int32.ofNat x)) 263 6 (Int32.ofNat (A 263 2 + 1)) = h34
        intro bMn TMn tyn
        refine mj_two.both (mj_close hs TXn x9n TMn) (fun p q Rr => ?_)
        obtain ⟨p1, p2⟩ := p
        obtain ⟨q1, q2⟩ := q
        rcases Rr with ⟨f, nz, o1, o2, o3, o4⟩ | ⟨lt4, o1, o2, ⟨o3, o4⟩, o5, o6⟩
        · obtain rfl : p1 = 0 := o1
          obtain rfl : q1 = 0 := o2
          exact mj_two.xs mk_bo0 (mj_two.ms mk_bo0 (mj_two.ret ⟨_, rfl, mj_TR.f nz txn tyn o3 o4⟩))
        · obtain rfl : p1 = 1 := o1
          obtain rfl : q1 = 1 := o2
          refine mj_two.xs mk_bo1 (mj_two.ms mk_bo1 (mj_two.ret ⟨_, rfl, Or.inr ⟨mk_ntk s b4, mj_aE A a c x, nP, nS, by omega, rfl, rfl, txn.tr o3.tx, tyn.tr o5.ty, o4, o3.2.2.trans x9n, o6, BTn, ?_, bXn.cr o3.1 (fun j z => by omega), bMn.ch o5.1 (fun j z => by omega)⟩⟩))
          rw [mj_aE_o (by omega) (by omega)]; omega
      · refine mj_two.x (mx_takeNumber0 (lo := 0) (hi := 10) x2 x9 (by omega) (by omega) nf) (fun v21 ⟨z1, z2⟩ => ?_)
        refine mj_two.m (mi_needsNumber0 (lo := 0) (hi := 10) y2 (by omega) (by omega) nf) (fun w21 ⟨w1, w2⟩ => ?_)
        refine mj_two.xs ix7 (mj_two.xl (mj_two.xs ix7 ?_))
        rw [w1, if_pos (show (0 : Int32) = 0 from rfl), z1, far, if_pos (show (-1 : Int32) = -1 from rfl)]
        have b3l := x2.1
        have nz : ¬ mk_fv (mk_nf s b3 0 10) b3 = 0 := by
          have : mk_nf s b3 0 10 = 1 ∨ mk_nf s b3 0 10 = 4 := by
            unfold mk_nf at nf ⊢
            by_cases k : mk_kd s b3 = 2
            · rw [if_pos k] at nf ⊢
              by_cases r : 0 ≤ mk_nu s b3 ∧ mk_nu s b3 ≤ 10
              · rw [if_pos r] at nf; omega
              · rw [if_neg r]; exact Or.inr rfl
            · rw [if_neg k]; exact Or.inl rfl
          exact mj_fv_nz (by omega) (by omega) (by omega)
        refine mj_two.ret ⟨_, rfl, Or.inl ⟨_, nz, rfl, rfl, ?_, w2.2.2, ((txg.tr x1.tx).tr z2.tx).tr (mj_tx.p ⟨by omega, by omega⟩ d33), (tM.tr y1.ty).tr w2.ty⟩⟩
        rw [mp_I1, if_neg (by omega)]; exact z2.2.2
    · -- the pair was told
      have le := mj_ear_le (A := A) (p := a) (q := c) (A 263 2) (fun e he => (t7 e he).2.2.2)
      rw [mn_on1 e0, if_neg (mn_nn1 (by omega))]
      obtain ⟨e, he, m1⟩ : ∃ e, e < A 263 2 ∧ (A 275 e = a ∧ A 276 e = c) := by
        refine Classical.byContradiction (fun z => e0 ((mj_ear_0 _).mpr (fun e he m => z ⟨e, he, m⟩)))
      have no : ∀ e', e' < e → ¬ (A 275 e' = a ∧ A 276 e' = c) := fun e' l m => t8 e e' he l ⟨m1.1.trans m.1.symm, m1.2.trans m.2.symm⟩
      obtain ⟨X, hX'⟩ : ∃ X : Int32 → Option (Int32 ⊕ (Int32 × mm_H)), X = fun _ => ((f_M_nextToken gM).bind fun v19 => (f_M_needsNumber 0 10 v19).bind fun v21 => if v21.1 = 0 then (some (Sum.inr (0, v21.2))) else ((mm_ix (Int32.ofNat (30 + A 263 2)) 60).bind fun k22 => mm_let (mm_pI v21.2 275 k22 (Int32.ofNat a)) fun h24 => (mm_ix (Int32.ofNat (30 + A 263 2)) 60).bind fun k26 => mm_let (mm_pI h24 276 k26 (Int32.ofNat c)) fun h28 => (mm_ix (Int32.ofNat (30 + A 263 2)) 60).bind fun k30 => mm_let (mm_pI h28 277 k30 (h28.1 261 41)) fun h32 => mm_let (mm_pI h32 263 6 ((h32.1 263 6) + 1)) fun h34 => (f_M_closes h34).bind fun v37 => (mm_bo v37.1).bind fun b38 => some (Sum.inr (b38, v37.2)))) := ⟨_, rfl⟩
      have wlk := mj_earw (A := A) (n := A 263 2) (a := a) (c := c) (step := fun s15 => if Int32.ofNat (30 + A 263 2) ≤ s15 then X s15 else ((mm_ix s15 60).bind fun k43 => if (gM.1 275 k43) = Int32.ofNat a then ((mm_ix s15 60).bind fun k50 => if (gM.1 276 k50) = Int32.ofNat c then ((f_M_fails 3 gM).bind fun v53 => (mm_bo v53.1).bind fun b54 => some (Sum.inr (b54, v53.2))) else (some (Sum.inl (s15 + 1)))) else (some (Sum.inl (s15 + 1))))) (fun e he ne => (stp e he X).trans (if_neg ne)) e (by omega) no
      have hit := (stp e he X).trans (if_pos m1)
      rw [hX'] at wlk hit
      refine Eq.subst (motive := fun o => mj_two _ o _) wlk.symm ?_
      refine mj_two.mw ?_
      refine Eq.subst (motive := fun o => mj_two _ o _) hit.symm ?_
      refine mj_two.x (mx_wrong (k := 3) T2 g9) (fun v9 ⟨x1, x2⟩ => ?_)
      refine mj_two.m (mi_fails (k := 3) M2) (fun w9 ⟨y1, y2⟩ => ?_)
      rw [x1, y1]
      exact mj_two.xs mk_bo0 (mj_two.ms mk_bo0 (mj_two.ret ⟨_, rfl, mj_TR.f (mj_fv_nz (k := 3) (b := b2) (by omega) (by omega) (by omega)) txg tM x2 y2⟩))
