/-! town, both sides -/
theorem mj_townM {A A' : mk_A} {E' : mk_E} {r : Nat → Nat} {u : mk_U} {nP nS : Nat → Nat → Nat} {d : Nat} {g hM k v6 : mm_H} (hw : mk_wf A r u) (B : mj_BT A' nP nS) (kM : mk_fX hM k) (bM : mj_BM A' nP nS k) (L : mv_LE d E' g k) (e1 : k.1 261 1 = 0) (vr : v6.2.2 = k.2.2) (vi : ∀ c j, v6.1 c j = if c = 278 ∧ j = 0 then k.1 278 1 - 1000 else if c = 279 ∧ j = 0 then k.1 279 1 - 1000 else if j < mj_mv c then k.1 c (mj_mv c + j) else k.1 c j) (vl : ∀ c j, v6.2.1 c j = if j < mj_mvL c then k.2.1 c (mj_mvL c + j) else k.2.1 c j) : mk_ok ((f_M_fresh v6).bind fun v8 => mm_let (mm_pI v8 293 0 0) fun h9 => mm_let (mm_pI h9 298 0 0) fun h11 => mm_let (mm_pI h11 261 55 0) fun h13 => (mm_while (σ := (Int32 × mm_H)) (ρ := mm_H) (fun s15 => if 4 ≤ s15.1 then (some (Sum.inr s15.2)) else ((mm_ix s15.1 4).bind fun k21 => mm_let (mm_pI s15.2 305 k21 ((0 : Int32) &&& 1)) fun h23 => mm_let (s15.1 + 1) fun y25 => some (Sum.inl (y25, h23)))) (0, h13)).bind fun v18 => some ((0 : Int32), v18)) (fun v => v.1 = 0 ∧ mk_fX hM v.2 ∧ mk_M (mj_fx A' v6) E' (mk_fresh (mj_fx A' v6)) (mj_ut u nP nS) v.2) := by
  obtain ⟨v0, v1, v2, v3, v4, v5⟩ := mj_ut_0 (u := u) (nP := nP) (nS := nS)
  have hT' : mk_T (mj_fx A' v6) := mj_fx_T B.T
  have hP := hT'.1.1
  have hS := hT'.1.2.1
  have eA : ∀ j, mj_fx A' v6 263 j = A' 263 j := fun j => mj_fx_i (Or.inl rfl)
  have hP' : A' 263 0 ≤ 6 := by rw [← eA]; exact hP
  have hS' : A' 263 1 ≤ 10 := by rw [← eA]; exact hS
  have hE' : A' 263 2 ≤ 30 := by rw [← eA]; exact hT'.1.2.2.1
  have lo : ∀ c j, ¬ c = 278 → ¬ c = 279 → j < mj_mv c → v6.1 c j = k.1 c (mj_mv c + j) := fun c j n1 n2 l => by
    rw [vi, if_neg (fun z => n1 z.1), if_neg (fun z => n2 z.1), if_pos l]
  have gar : ∀ c j, ¬ c = 263 → ¬ c = 272 → ¬ (c = 263 ∨ (266 ≤ c ∧ c ≤ 268 ∧ j < A' 263 0) ∨ (269 ≤ c ∧ c ≤ 274 ∧ j < A' 263 1) ∨ (275 ≤ c ∧ c ≤ 277 ∧ j < A' 263 2)) → v6.1 c j = Int32.ofNat (mj_fx A' v6 c j) := fun c j n1 n2 n3 => by
    unfold mj_fx
    rw [if_neg n3, if_neg n2, mv_nat_of]
  have gar2 : ∀ j, ¬ j < A' 263 1 → v6.1 272 j = Int32.ofNat (mj_fx A' v6 272 j) - 1 := fun j n3 => by
    unfold mj_fx
    rw [if_neg (by omega), if_pos rfl, mv_nat_of]
    grind
  have MT : mk_MT (mj_fx A' v6) E' v6 := by
    refine ⟨fun j hj => ?_, fun p hp => ?_, fun j hj => ?_, fun e he => ?_, L.EM (by rw [vi, if_pos ⟨rfl, rfl⟩]) (by rw [vi, if_neg (by omega), if_pos ⟨rfl, rfl⟩]) (fun j hj => lo 280 j (by omega) (by omega) hj)⟩
    · rw [eA, lo 263 j (by omega) (by omega) hj]
      have : j = 0 ∨ j = 1 ∨ j = 2 ∨ j = 3 := by omega
      rcases this with rfl | rfl | rfl | rfl
      · exact bM.c4
      · exact bM.c5
      · exact bM.c6
      · exact bM.c7
    · by_cases l : p < A' 263 0
      · rw [mj_fx_i (by omega), mj_fx_i (by omega), mj_fx_i (by omega), lo 266 p (by omega) (by omega) hp, lo 267 p (by omega) (by omega) hp, lo 268 p (by omega) (by omega) hp]
        exact bM.pp p l
      · exact ⟨gar 266 p (by omega) (by omega) (by omega), gar 267 p (by omega) (by omega) (by omega), gar 268 p (by omega) (by omega) (by omega)⟩
    · by_cases l : j < A' 263 1
      · rw [mj_fx_i (by omega), mj_fx_i (by omega), mj_fx_i (by omega), mj_fx_i (by omega), mj_fx_i (by omega), mj_fx_i (by omega), lo 269 j (by omega) (by omega) hj, lo 270 j (by omega) (by omega) hj, lo 271 j (by omega) (by omega) hj, lo 272 j (by omega) (by omega) hj, lo 273 j (by omega) (by omega) hj, lo 274 j (by omega) (by omega) hj]
        exact bM.ss j l
      · exact ⟨gar 269 j (by omega) (by omega) (by omega), gar 270 j (by omega) (by omega) (by omega), gar 271 j (by omega) (by omega) (by omega), gar2 j l, gar 273 j (by omega) (by omega) (by omega), gar 274 j (by omega) (by omega) (by omega)⟩
    · by_cases l : e < A' 263 2
      · rw [mj_fx_i (by omega), mj_fx_i (by omega), mj_fx_i (by omega), lo 275 e (by omega) (by omega) he, lo 276 e (by omega) (by omega) he, lo 277 e (by omega) (by omega) he]
        exact bM.ee e l
      · exact ⟨gar 275 e (by omega) (by omega) (by omega), gar 276 e (by omega) (by omega) (by omega), gar 277 e (by omega) (by omega) (by omega)⟩
  refine mk_ok.bind (mi_fresh hT' MT) (fun v8 ⟨f1, f2⟩ => ?_)
  refine mk_ok.let (mk_ok.let (mk_ok.let ?_))
  have k3 : mk_ch (fun c => c = 293 ∨ c = 298 ∨ c = 261) v8 (mm_pI (mm_pI (mm_pI v8 293 0 0) 298 0 0) 261 55 0) := ((mk_ch.pI (D := fun c => c = 293 ∨ c = 298 ∨ c = 261) (Or.inl rfl)).tr (mk_ch.pI (D := fun c => c = 293 ∨ c = 298 ∨ c = 261) (Or.inr (Or.inl rfl))) (fun _ z => z) (fun _ z => z)).tr (mk_ch.pI (D := fun c => c = 293 ∨ c = 298 ∨ c = 261) (Or.inr (Or.inr rfl))) (fun _ z => z) (fun _ z => z)
  have a1 : (mm_pI (mm_pI (mm_pI v8 293 0 0) 298 0 0) 261 55 0).1 293 0 = 0 := by rw [mp_I1, if_neg (by omega), mp_I1, if_neg (by omega), mp_I1, if_pos ⟨rfl, rfl⟩]
  have a2 : (mm_pI (mm_pI (mm_pI v8 293 0 0) 298 0 0) 261 55 0).1 298 0 = 0 := by rw [mp_I1, if_neg (by omega), mp_I1, if_pos ⟨rfl, rfl⟩]
  have a3 : (mm_pI (mm_pI (mm_pI v8 293 0 0) 298 0 0) 261 55 0).1 261 55 = 0 := by rw [mp_I1, if_pos ⟨rfl, rfl⟩]
  have a4 : (mm_pI (mm_pI (mm_pI v8 293 0 0) 298 0 0) 261 55 0).1 261 1 = 0 := by
    rw [mp_I1, if_neg (by omega), mp_I1, if_neg (by omega), mp_I1, if_neg (by omega), f1.e1 (c := 261) (by omega), vi, if_neg (by omega), if_neg (by omega), if_neg (by decide)]
    exact e1
  revert k3 a1 a2 a3 a4
  generalize mm_pI (mm_pI (mm_pI v8 293 0 0) 298 0 0) 261 55 0 = h13
  intro k3 a1 a2 a3 a4
  refine mk_ok.bind (mk_ok.for (ρ := mm_H) 4 (fun i (z : Int32 × mm_H) => z.1 = Int32.ofNat i ∧ mk_ch (fun c => c = 305) h13 z.2 ∧ ∀ j, j < i → z.2.1 305 j = 0) (Q := fun v => mk_ch (fun c => c = 305) h13 v ∧ ∀ j, j < 4 → v.1 305 j = 0) ⟨rfl, mk_ch.rf, fun j hj => absurd hj (Nat.not_lt_zero j)⟩ (fun i z hi ⟨q1, q2, q3⟩ => ?_) (fun z ⟨q1, q2, q3⟩ => ?_)) (fun v18 ⟨q2, q3⟩ => ?_)
  · rw [q1, if_neg (fun y => absurd ((mn_lle (b := 4) (show i < 2147483648 by omega) (by decide)).mp y) (show ¬ 4 ≤ i by omega))]
    refine mk_ok.bs (mn_ix hi (by omega)) (mk_ok.let (mk_ok.let ?_))
    rw [show Int32.ofNat i + 1 = Int32.ofNat (i + 1) from mn_addl 1 _]
    refine mk_ok.inl ⟨rfl, q2.tr (mk_ch.pI (D := fun c => c = 305) rfl) (fun _ z => z) (fun _ z => z), fun j hj => ?_⟩
    dsimp only
    rw [mp_I1]
    by_cases e : j = i
    · rw [if_pos ⟨rfl, e⟩]; decide
    · rw [if_neg (fun y => e y.2)]; exact q3 j (by omega)
  · rw [q1, if_pos (show (4 : Int32) ≤ Int32.ofNat 4 by decide)]
    exact mk_ok.inr ⟨q2, q3⟩
  · have t1 : mk_ch (fun c => c = 301 ∨ c = 293 ∨ c = 298 ∨ c = 261 ∨ c = 305) v6 v18 := (f1.tr k3 (D := fun c => c = 301 ∨ c = 293 ∨ c = 298 ∨ c = 261 ∨ c = 305) (fun _ z => by omega) (fun _ z => by omega)).tr q2 (fun _ z => z) (fun _ z => by omega)
    refine mk_ok.ret ⟨rfl, ?_, MT.ch t1 (fun j z => by omega), (f2.ch k3 (by omega)).ch q2 (by omega), ⟨?_, fun i hi => ?_⟩, fun m hm => ⟨?_, fun hb => ?_⟩, ⟨?_, ?_, fun j hj => ?_, fun j hj => ?_⟩, ⟨?_, fun j hj => ?_⟩, fun p hp => ?_, fun j hj => ?_⟩
    · refine ⟨fun c hc => ?_, ?_⟩
      · have h1 := kM.1 c hc
        have m0 : ∀ j, ¬ j < mj_mv c := fun j z => by have := mj_mv_c z; omega
        have m1 : ∀ j, ¬ j < mj_mvL c := fun j z => by have := mj_mvL_c z; omega
        refine ⟨?_, ?_⟩
        · dsimp only
          rw [t1.e1 (by omega), ← h1.1]
          funext j
          rw [vi, if_neg (by omega), if_neg (by omega), if_neg (m0 j)]
        · dsimp only
          rw [t1.e2 (by omega), ← h1.2]
          funext j
          rw [vl, if_neg (m1 j)]
      · dsimp only
        rw [t1.2, vr]; exact kM.2
    · dsimp only
      rw [q2.e1 (c := 261) (by omega), a3, v0]; rfl
    · rw [v0] at hi; exact absurd hi (Nat.not_lt_zero i)
    · dsimp only
      rw [q3 m hm, v2, Nat.zero_testBit]; rfl
    · rw [v2, Nat.zero_testBit] at hb; exact absurd hb (by decide)
    · show v18.1 293 0 = Int32.ofNat (mj_ut u nP nS 30 0)
      rw [q2.e1 (c := 293) (by omega), a1, v3]; rfl
    · show v18.1 298 0 = Int32.ofNat (mj_ut u nP nS 30 1)
      rw [q2.e1 (c := 298) (by omega), a2, v4]; rfl
    · have : j < mj_ut u nP nS 30 0 := hj
      rw [v3] at this; exact absurd this (Nat.not_lt_zero j)
    · have : j < mj_ut u nP nS 30 1 := hj
      rw [v4] at this; exact absurd this (Nat.not_lt_zero j)
    · dsimp only
      rw [q2.e1 (c := 261) (by omega), a4, v5]; rfl
    · rw [v5] at hj; exact absurd hj (Nat.not_lt_zero j)
    · rw [eA] at hp
      have l : p < mj_mvL 264 := by show p < 6; omega
      dsimp only
      rw [t1.e2 (c := 264) (by omega), vl, if_pos l, mj_ut_p (by omega)]
      exact bM.np p hp
    · rw [eA] at hj
      have l : j < mj_mvL 265 := by show j < 10; omega
      dsimp only
      rw [t1.e2 (c := 265) (by omega), vl, if_pos l, mj_ut_s (by omega)]
      exact bM.ns j hj
theorem mk_M.ts {A : mk_A} {E : mk_E} {r : Nat → Nat} {u : mk_U} {s : mk_S} {h h' : mm_H} (hw : mk_wf A r u) (q : mk_M A E r u h) (k : mk_ch (fun c => c = 261 ∨ (263 ≤ c ∧ c ≤ 282)) h h') (e : h'.1 261 55 = h.1 261 55) (e1 : ∀ c j, 263 ≤ c → c ≤ 280 → j < mj_low c → h'.1 c j = h.1 c j) (e2 : ∀ c j, 264 ≤ c → c ≤ 265 → j < mj_low c → h'.2.1 c j = h.2.1 c j) (hp : mk_PMs s h') : mk_M A E r (mk_us u s) h' := by
  have hP := hw.1.1.1
  have hS1 := hw.1.1.2.1
  obtain ⟨q1, q2, q3, q4, q5, q6, q7⟩ := q
  have e0 : mk_us u s 0 = u 0 := mk_us_o (by omega)
  have r3 := q3.ch k e (by omega)
  have r4 := q4.ch k (by omega)
  have r5 := q5.ch k (by omega)
  refine ⟨⟨fun j hj => ?_, fun p hp => ?_, fun j hj => ?_, fun j hj => ?_, ?_⟩, q2.ch k (by omega), ⟨by rw [e0]; exact r3.1, fun i hi => ?_⟩, fun m hm => ?_, r5.us (by omega), hp, fun p hp => ?_, fun j hj => ?_⟩
  · rw [e1 263 j (by omega) (by omega) hj]; exact q1.1 j hj
  · rw [e1 266 p (by omega) (by omega) hp, e1 267 p (by omega) (by omega) hp, e1 268 p (by omega) (by omega) hp]; exact q1.2.1 p hp
  · rw [e1 269 j (by omega) (by omega) hj, e1 270 j (by omega) (by omega) hj, e1 271 j (by omega) (by omega) hj, e1 272 j (by omega) (by omega) hj, e1 273 j (by omega) (by omega) hj, e1 274 j (by omega) (by omega) hj]; exact q1.2.2.1 j hj
  · rw [e1 275 j (by omega) (by omega) hj, e1 276 j (by omega) (by omega) hj, e1 277 j (by omega) (by omega) hj]; exact q1.2.2.2.1 j hj
  · have f8 := e1 278 0 (by omega) (by omega) (show 0 < 1 by omega)
    have f9 := e1 279 0 (by omega) (by omega) (show 0 < 1 by omega)
    have f0 : ∀ j, j < 1000 → h'.1 280 j = h.1 280 j := fun j hj => e1 280 j (by omega) (by omega) hj
    have q5' := q1.2.2.2.2
    unfold mk_EM at q5' ⊢
    cases E with
    | none =>
      dsimp only at q5' ⊢
      rw [f8, f9]; exact q5'
    | some f =>
      dsimp only at q5' ⊢
      rw [f8, f9]
      exact ⟨q5'.1, fun g g8 g9 g0 => q5'.2 g g8 g9 (fun j hj => (g0 j hj).trans (f0 j hj))⟩
  · rw [e0] at hi
    rw [mk_us_o (by have := hw.2.2.1.1; omega)]
    exact r3.2 i hi
  · rw [e0, mk_us_o (by omega)]
    exact ⟨(r4 m hm).1, fun z => ⟨((r4 m hm).2 z).1, ((r4 m hm).2 z).2.us (by omega)⟩⟩
  · rw [mk_us_o (by omega), e2 264 p (by omega) (by omega) (show p < 6 by omega)]; exact q7.1 p hp
  · rw [mk_us_o (by omega), e2 265 j (by omega) (by omega) (show j < 10 by omega)]; exact q7.2 j hj
theorem mc_town : mk_call f_X_town f_M_town := by
  refine mj_callof (fun A E t r u hX hM hw iX iM => ?_)
  have hT := hw.1
  have ht := iX.2.1.1
  obtain ⟨d, ed⟩ : ∃ d, d = 175 - t := ⟨_, rfl⟩
  have hd : d = 79 ∨ d = 96 := by omega
  have d33 : 33 < d := by omega
  have hs : mk_sgs (u 90 0, u 91) := hw.2.2.2.2.2.1
  have hs0 : mk_sgs (0, u 91) := ⟨by dsimp only; omega, fun k hk => absurd hk (Nat.not_lt_zero k)⟩
  have td : mm_tg d = 7 := (mk_tt hd).1
  unfold f_X_town f_M_town f_Tr_readTown f_Ta_rewind
  refine mj_two.xs (mx_gTk (by rw [ed]; exact iX.1.2) hd) ?_
  rw [if_pos td]
  -- the class: the draft emptied, the tape rewound
  refine mj_two.xa (mj_two.x (mx_clear (nP := fun _ _ => 0) (nS := fun _ _ => 0) hd) (fun h3 ⟨c1, c2, c3⟩ => ?_))
  have P3 : mk_PXs (u 90 0, u 91) h3 := by
    have := iX.2.2.2.2.2.2.1
    exact ⟨by rw [c1.e1 (c := 33) (by omega)]; exact this.1, fun k hk => by rw [c1.e1 (c := 34) (by omega)]; exact this.2 k hk⟩
  have g3 : mj_tx 15 d hX h3 := ⟨(mk_cr.of c1).mono (fun c z => Or.inr z), by rw [c1.e1 (c := 33) (by omega)]⟩
  refine mj_two.xa (mj_two.xa (mj_two.xla (mj_two.xla ?_)))
  have c5 : mk_cr (fun c => c = 33) h3 (mm_pI (mm_pI h3 33 2 0) 33 9 0) := mk_cr.of ((mk_ch.pI (D := fun c => c = 33) rfl).tr (mk_ch.pI (D := fun c => c = 33) rfl) (fun _ z => z) (fun _ z => z))
  have c51 : (mm_pI (mm_pI h3 33 2 0) 33 9 0).1 33 1 = h3.1 33 1 := by rw [mp_I1, if_neg (by omega), mp_I1, if_neg (by omega)]
  have c52 : (mm_pI (mm_pI h3 33 2 0) 33 9 0).1 33 2 = Int32.ofNat 0 := by rw [mp_I1, if_neg (by omega), mp_I1, if_pos ⟨rfl, rfl⟩]; rfl
  have c59 : (mm_pI (mm_pI h3 33 2 0) 33 9 0).1 33 9 = 0 := by rw [mp_I1, if_pos ⟨rfl, rfl⟩]
  revert c5 c51 c52 c59
  generalize mm_pI (mm_pI h3 33 2 0) 33 9 0 = h5
  intro c5 c51 c52 c59
  have P5 : mk_PXs (u 90 0, u 91) h5 := ⟨c51.trans P3.1, fun k hk => by rw [c5.e1 (c := 34) (by omega)]; exact P3.2 k hk⟩
  have g5 : mj_tx 15 d hX h5 := g3.tr ⟨c5.mono (fun c z => Or.inl z), c51⟩
  have b5 : mj_BX mj_A0 (fun _ _ => 0) (fun _ _ => 0) d h5 := c2.cr c5 (fun j z => by omega)
  refine mj_two.x (mx_tnext hs (Nat.zero_le _) P5 c52) (fun v6 ⟨n1, n2⟩ => ?_)
  refine mj_two.xs rfl ?_
  have g6 : mj_tx 15 d hX v6 := g5.tr n1.tx
  have b6 := b5.cr n1.1 (fun j z => by omega)
  have x69 : v6.1 33 9 = 0 := n1.2.2.trans c59
  have l6 : v6.1 (d + 14) 2 = 0 := by rw [n1.1.e1 (c := d + 14) (by omega), c5.e1 (c := d + 14) (by omega)]; exact c3
  -- the reference
  refine mj_two.ml ?_
  have p0 : mk_s2m hM (mm_pI hM 261 0 0) := mk_s2m.pI ⟨by decide, by decide⟩
  have iM1 := iM.s2 p0
  have fX1 := mk_fX.s2 p0
  revert iM1 fX1
  generalize mm_pI hM 261 0 0 = h1
  intro iM1 fX1
  rw [mj_readsAll]
  refine mj_two.ma (mj_two.m mi_zero4 (fun v4 ⟨z1, z2⟩ => ?_))
  unfold f_M_starts
  refine mj_two.mla (mj_two.mla (mj_two.mla ?_))
  refine mj_two.ma (mj_two.mla (mj_two.mla (mj_two.mla ?_)))
  have PM := iM1.2.2.2.2.2.1
  generalize hk9 : mm_pI (mm_pI (mm_pI (mm_pI (mm_pI (mm_pI v4 278 1 1000) 279 1 1000) 261 28 1000) 261 3 ((mm_pI (mm_pI (mm_pI v4 278 1 1000) 279 1 1000) 261 28 1000).1 261 1)) 261 1 0) 261 4 0 = k9
  have v9 : ∀ c j, k9.1 c j = if c = 261 ∧ j = 4 then 0 else if c = 261 ∧ j = 1 then 0 else if c = 261 ∧ j = 3 then h1.1 261 1 else if c = 261 ∧ j = 28 then 1000 else if c = 279 ∧ j = 1 then 1000 else if c = 278 ∧ j = 1 then 1000 else if c = 263 ∧ 4 ≤ j ∧ j < 8 then 0 else h1.1 c j := by
    intro c j
    rw [← hk9, mp_I1, mp_I1, mp_I1, mp_I1, mp_I1, mp_I1, mp_I1, mp_I1, mp_I1, if_neg (show ¬ (261 = 261 ∧ 1 = 28) by omega), if_neg (show ¬ (261 = 279 ∧ 1 = 1) by omega), if_neg (show ¬ (261 = 278 ∧ 1 = 1) by omega), z2, z2, if_neg (show ¬ (261 = 263 ∧ 4 ≤ 1 ∧ 1 < 8) by omega)]
  have v92 : k9.2 = h1.2 := by rw [← hk9]; exact z1
  have k5 : mk_ch (fun c => c = 261 ∨ (263 ≤ c ∧ c ≤ 282)) h1 k9 := ⟨fun c hc => ⟨by
    funext j
    rw [v9, if_neg (by omega), if_neg (by omega), if_neg (by omega), if_neg (by omega), if_neg (by omega), if_neg (by omega), if_neg (by omega)], by rw [v92]⟩, by rw [v92]⟩
  have low5 : ∀ c j, 263 ≤ c → c ≤ 280 → j < mj_low c → k9.1 c j = h1.1 c j := fun c j l1 l2 l3 => by
    have a : ¬ (c = 279 ∧ j = 1) := fun z => by rw [z.1, z.2] at l3; exact absurd l3 (by decide)
    have b : ¬ (c = 278 ∧ j = 1) := fun z => by rw [z.1, z.2] at l3; exact absurd l3 (by decide)
    have e : ¬ (c = 263 ∧ 4 ≤ j ∧ j < 8) := fun z => by rw [z.1] at l3; have : j < 4 := l3; omega
    rw [v9, if_neg (by omega), if_neg (by omega), if_neg (by omega), if_neg (by omega), if_neg a, if_neg b, if_neg e]
  have PY : mk_PY (u 90 0, u 91) k9 := ⟨by rw [v9, if_neg (by omega), if_neg (by omega), if_pos ⟨rfl, rfl⟩]; exact PM.1, fun k hk => by rw [v9, if_neg (by omega), if_neg (by omega), if_neg (by omega), if_neg (by omega), if_neg (by omega), if_neg (by omega), if_neg (by omega)]; exact PM.2 k hk⟩
  refine mj_two.ma (mj_two.m (mi_tnext hs (Nat.zero_le _) PY (by rw [v9, if_pos ⟨rfl, rfl⟩]; rfl)) (fun v8 ⟨m1, m2⟩ => ?_))
  refine mj_two.ms rfl ?_
  have e8 : ∀ c, ¬ c = 261 → v8.1 c = k9.1 c := fun c hc => m1.1.e1 hc
  have bM8 : mj_BM mj_A0 (fun _ _ => 0) (fun _ _ => 0) v8 := by
    have z : ∀ j, 4 ≤ j → j < 8 → v8.1 263 j = 0 := fun j j1 j2 => by rw [e8 263 (by omega), v9, if_neg (by omega), if_neg (by omega), if_neg (by omega), if_neg (by omega), if_neg (by omega), if_neg (by omega), if_pos ⟨rfl, j1, j2⟩]
    exact ⟨z 4 (by omega) (by omega), z 5 (by omega) (by omega), z 6 (by omega) (by omega), z 7 (by omega) (by omega), fun p hp => absurd hp (Nat.not_lt_zero p), fun k hk => absurd hk (Nat.not_lt_zero k), fun e he => absurd he (Nat.not_lt_zero e), fun k hk => absurd hk (Nat.not_lt_zero k), fun k hk => absurd hk (Nat.not_lt_zero k)⟩
  have L8 : mv_LE d none v6 v8 := ⟨l6, by rw [e8 278 (by omega), v9, if_neg (by omega), if_neg (by omega), if_neg (by omega), if_neg (by omega), if_neg (by omega), if_pos ⟨rfl, rfl⟩], by rw [e8 279 (by omega), v9, if_neg (by omega), if_neg (by omega), if_neg (by omega), if_neg (by omega), if_pos ⟨rfl, rfl⟩], by rw [m1.2 28 (by omega) (by omega) (by omega) (by omega), v9, if_neg (by omega), if_neg (by omega), if_neg (by omega), if_pos ⟨rfl, rfl⟩]⟩
  obtain ⟨a, c, e1, e2, R⟩ := mj_tlines hs hd mj_BT0 (Nat.zero_le _) b6 bM8 n2 x69 m2 L8
  refine mj_two.xs e1 ?_
  refine mj_two.ms e2 ?_
  unfold f_Ta_clear
  refine mj_two.xla (mj_two.xs rfl ?_)
  have v1 : ∀ g : mm_H, mj_ty 282 v8 g → g.1 261 1 = 0 := fun g kg => by
    rw [kg.2.1 1 (by omega) (by omega) (by omega) (by omega) (by omega) (by omega) (by omega), m1.2 1 (by omega) (by omega) (by omega) (by omega), v9, if_neg (by omega), if_pos ⟨rfl, rfl⟩]
  have tyM : ∀ g : mm_H, mj_ty 282 v8 g → mk_ch (fun c => c = 261 ∨ (263 ≤ c ∧ c ≤ 282)) h1 g := fun g kg => (k5.tr (m1.1.mono (D := fun c => c = 261 ∨ (263 ≤ c ∧ c ≤ 282)) (fun _ z => Or.inl z)) (fun _ z => z) (fun _ z => z)).tr kg.1 (fun _ z => z) (fun _ z => z)
  have fM : ∀ g : mm_H, mj_ty 282 v8 g → mk_fX hM g := fun g kg => fX1.tr (mk_fX.of (tyM g kg) (fun c z => by omega))
  rcases R with ⟨f, nz, r1, r2, r3, r4, r5⟩ | ⟨r1, r2, r3, r4, A', nP, nS, E', B, bX, bM, L⟩
  · rw [if_neg (by rw [r1]; exact nz), r2, if_pos rfl]
    have kt : mj_tx 15 d hX a.2 := g6.tr r4
    have kc : mk_cr (fun c => c = 33 ∨ (d ≤ c ∧ c ≤ d + 15)) hX (mm_pI a.2 33 1 0) := kt.1.tr (mk_cr.of (mk_ch.pI (D := fun c => c = 33) rfl)) (fun _ z => z) (fun c z => Or.inl z)
    refine mj_two.ret ⟨by rw [r1, r3], fun c hc => kc.1 c (by omega), fM _ r5, A, E, t, r, mk_us u (0, u 91), hw.us hs0, iX.us hw (kc.mono (fun c z => by unfold mk_sx; omega)) ⟨by dsimp only; rw [mp_I1, if_pos ⟨rfl, rfl⟩]; rfl, fun k hk => absurd hk (Nat.not_lt_zero k)⟩, iM1.ts hw (tyM _ r5) ?_ (fun c j l1 l2 l3 => ?_) (fun c j l1 l2 l3 => ?_) ⟨?_, fun k hk => absurd hk (Nat.not_lt_zero k)⟩⟩
    · rw [r5.2.1 55 (by omega) (by omega) (by omega) (by omega) (by omega) (by omega) (by omega), m1.2 55 (by omega) (by omega) (by omega) (by omega), v9, if_neg (by omega), if_neg (by omega), if_neg (by omega), if_neg (by omega), if_neg (by omega), if_neg (by omega), if_neg (by omega)]
    · rw [r5.2.2.1 c j l1 l2 l3, e8 c (by omega), low5 c j l1 l2 l3]
    · rw [r5.2.2.2 c j l1 l2 l3, m1.1.e2 (by omega), v92]
    · dsimp only
      rw [v1 _ r5]; rfl
  · rw [if_pos r1, r2, if_neg (show ¬ (1 : Int32) = 0 by decide)]
    obtain ⟨w6, ew, w1, w2, w3⟩ := mi_laysTown (h := c.2)
    refine mj_two.ms ew ?_
    have hwf := hw.ut (A' := mj_fx A' w6) (nP := nP) (nS := nS) (mj_fx_T B.T) (by rw [mj_fx_i (Or.inl rfl)]; exact B.oP) (by rw [mj_fx_i (Or.inl rfl)]; exact B.oS)
    refine mj_two.of (mj_townX (hh := w6) hw iX ed B (g6.tr r3) bX (L.EX hd)) (mj_townM hw B (fM _ r4) bM L (v1 _ r4) w1 w2 w3) (fun p q ⟨p1, p2, p3⟩ ⟨q1, q2, q3⟩ => ?_)
    exact ⟨by rw [p1, q1], p2, q2, mj_fx A' w6, E', d, _, _, hwf, p3, q3⟩
