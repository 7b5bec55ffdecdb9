/-! gossip -/
def mj_ul (u : mk_U) (v : mj_L) : mk_U := fun a => if a = 30 then (fun j => if j = 0 then v 0 0 else u 30 j) else if 31 ≤ a ∧ a ≤ 34 then v (a - 30) else u a
theorem mj_ul_o {u : mk_U} {v : mj_L} {a : Nat} (h : ¬ (30 ≤ a ∧ a ≤ 34)) : mj_ul u v a = u a := by
  unfold mj_ul; rw [if_neg (by omega), if_neg (by omega)]
theorem mj_ul_l {u : mk_U} {v : mj_L} {a : Nat} (h : 31 ≤ a ∧ a ≤ 34) : mj_ul u v a = v (a - 30) := by
  unfold mj_ul; rw [if_neg (by omega), if_pos h]
theorem mj_ul_0 {u : mk_U} {v : mj_L} : mj_ul u v 30 0 = v 0 0 ∧ mj_ul u v 30 1 = u 30 1 := ⟨rfl, rfl⟩
theorem mk_wf.ul {A : mk_A} {r : Nat → Nat} {u : mk_U} {v : mj_L} (hw : mk_wf A r u) (hv : mj_LW (A 263 0) (A 263 1) v) : mk_wf A r (mj_ul u v) := by
  have hP := hw.1.1.1
  have hS1 := hw.1.1.2.1
  obtain ⟨w1, w2, ⟨w3, w4, w5⟩, ⟨w6, w7⟩, w8, w9, w10, w11⟩ := hw
  have e0 : mj_ul u v 0 = u 0 := mj_ul_o (by omega)
  refine ⟨w1, w2, ⟨by rw [e0]; exact w3, by rw [e0]; exact w4, fun i hi => ?_⟩, ⟨by rw [e0]; exact w6, fun m hm hb => ?_⟩, ?_, ?_, fun p hp => ?_, fun k hk => ?_⟩
  · rw [e0] at hi
    rw [mj_ul_o (by omega)]; exact w5 i hi
  · rw [e0] at hb
    rw [mj_ul_o (by omega)]
    exact ⟨(w7 m hm hb).1, (w7 m hm hb).2.mv (i := 1 + m) (fun f hf => mj_ul_o (by omega))⟩
  · unfold mk_TW at w8 ⊢
    rw [show 30 + 10 * 0 = 30 from rfl, show 31 + 10 * 0 = 31 from rfl, show 32 + 10 * 0 = 32 from rfl, show 33 + 10 * 0 = 33 from rfl, show 34 + 10 * 0 = 34 from rfl, show 35 + 10 * 0 = 35 from rfl, show 36 + 10 * 0 = 36 from rfl] at w8 ⊢
    rw [mj_ul_0.1, mj_ul_0.2, mj_ul_l (a := 31) (by omega), mj_ul_l (a := 32) (by omega), mj_ul_l (a := 33) (by omega), mj_ul_l (a := 34) (by omega), mj_ul_o (a := 35) (by omega), mj_ul_o (a := 36) (by omega)]
    exact ⟨hv.1, w8.2.1, hv.2, w8.2.2.2⟩
  · rw [mj_ul_o (by omega), mj_ul_o (by omega)]; exact w9
  · rw [mj_ul_o (by omega)]; exact w10 p hp
  · rw [mj_ul_o (by omega)]; exact w11 k hk
theorem mk_X.ul {A : mk_A} {E : mk_E} {t : Nat} {r : Nat → Nat} {u : mk_U} {v : mj_L} {h h' : mm_H} (hw : mk_wf A r u) (q : mk_X A E t r u h) (k : mk_ch (fun c => 47 ≤ c ∧ c ≤ 51) h h') (e5 : h'.1 47 5 = h.1 47 5) (LX : mj_LX v 47 h') : mk_X A E t r (mj_ul u v) h' := by
  have hP := hw.1.1.1
  have hS1 := hw.1.1.2.1
  obtain ⟨q0, q1, q2, q3, q4, q5, q6, q7⟩ := q
  have ht := q1.1
  have e0 : mj_ul u v 0 = u 0 := mj_ul_o (by omega)
  have r3 := q3.ch hw.2.2.1.1 k (by omega) (fun j z => by omega)
  have r4 := q4.ch k (by omega) (fun j z => by omega)
  have r7 := q7.ch k ⟨by omega, by omega⟩
  refine ⟨⟨by rw [k.2]; exact q0.1, by rw [k.2]; exact q0.2⟩, q1.ch k (fun j z => by omega), q2.ch k (fun j z => by omega), ⟨by rw [e0]; exact r3.1, by rw [e0]; exact r3.2.1, fun i hi => ?_⟩, ⟨by rw [e0]; exact r4.1, fun m hm hb => ?_⟩, ?_, ?_, fun p hp => ?_, fun k hk => ?_⟩
  · rw [e0] at hi ⊢
    rw [mj_ul_o (by have := hw.2.2.1.1; omega)]
    exact r3.2.2 i hi
  · rw [e0] at hb
    rw [mj_ul_o (by omega)]
    exact ⟨(r4.2 m hm hb).1, (r4.2 m hm hb).2.mv (i := 1 + m) (fun f hf => mj_ul_o (by omega))⟩
  · unfold mk_TX at q5 ⊢
    rw [show 30 + 10 * 0 = 30 from rfl, show 31 + 10 * 0 = 31 from rfl, show 32 + 10 * 0 = 32 from rfl, show 33 + 10 * 0 = 33 from rfl, show 34 + 10 * 0 = 34 from rfl, show 35 + 10 * 0 = 35 from rfl, show 36 + 10 * 0 = 36 from rfl] at q5 ⊢
    rw [mj_ul_0.1, mj_ul_0.2, mj_ul_l (a := 31) (by omega), mj_ul_l (a := 32) (by omega), mj_ul_l (a := 33) (by omega), mj_ul_l (a := 34) (by omega), mj_ul_o (a := 35) (by omega), mj_ul_o (a := 36) (by omega)]
    refine ⟨LX.1, e5.trans q5.2.1, LX.2, fun k' hk' => ?_⟩
    rw [k.e1 (c := 47 + 5) (by omega), k.e1 (c := 47 + 6) (by omega)]
    exact q5.2.2.2 k' hk'
  · have := q6.ch k ⟨by omega, by omega⟩
    unfold mk_PX at this ⊢
    rw [mj_ul_o (by omega), mj_ul_o (by omega)]; exact this
  · rw [mj_ul_o (by omega)]; exact r7.1 p hp
  · rw [mj_ul_o (by omega)]; exact r7.2 k hk
theorem mk_M.gs {A : mk_A} {E : mk_E} {r : Nat → Nat} {u : mk_U} {s : mk_S} {h h' : mm_H} (hw : mk_wf A r u) (q : mk_M A E r u h) (k : mk_ch (fun c => c = 261 ∨ (293 ≤ c ∧ c ≤ 297)) h h') (e : h'.1 261 55 = h.1 261 55) (e1 : ∀ j, j < 5 → h'.1 293 j = h.1 293 j) (e2 : ∀ c j, 294 ≤ c → c ≤ 297 → j < 150 → h'.1 c j = h.1 c j) (hp : mk_PMs s h') : mk_M A E r (mk_us u s) h' := by
  have hP := hw.1.1.1
  have hS1 := hw.1.1.2.1
  obtain ⟨q1, q2, q3, q4, q5, q6, q7⟩ := q
  have e0 : mk_us u s 0 = u 0 := mk_us_o (by omega)
  have r3 := q3.ch k e (by omega)
  have r7 := q7.ch k ⟨by omega, by omega⟩
  have TMi : ∀ i, i < 5 → u (30 + 10 * i) 0 ≤ 30 ∧ u (30 + 10 * i) 1 ≤ 10 → mk_TM u i h → mk_TM u i h' := fun i hi hb z => z.sl hb ⟨e1 i hi, by rw [k.e1 (by omega)]⟩ (fun c j c1 c2 hj => e2 c _ c1 c2 (by omega)) (fun c j c1 c2 hj => by rw [k.e1 (by omega)])
  refine ⟨q1.ch k (fun j z => by omega), q2.ch k (by omega), ⟨by rw [e0]; exact r3.1, fun i hi => ?_⟩, fun m hm => ?_, (TMi 0 (by omega) ⟨hw.2.2.2.2.1.1, hw.2.2.2.2.1.2.1⟩ q5).us (by omega), hp, fun p hp => ?_, fun k hk => ?_⟩
  · rw [e0] at hi
    rw [mk_us_o (by have := hw.2.2.1.1; omega)]
    exact r3.2 i hi
  · rw [e0, mk_us_o (by omega), k.e1 (c := 305) (by omega), k.e1 (c := 303) (by omega)]
    refine ⟨(q4 m hm).1, fun z => ⟨((q4 m hm).2 z).1, ?_⟩⟩
    have w := (hw.2.2.2.1.2 m hm z).2
    exact (TMi (1 + m) (by omega) ⟨w.1, w.2.1⟩ ((q4 m hm).2 z).2).us (by omega)
  · rw [mk_us_o (by omega)]; exact r7.1 p hp
  · rw [mk_us_o (by omega)]; exact r7.2 k hk
theorem mk_M.ul {A : mk_A} {E : mk_E} {r : Nat → Nat} {u : mk_U} {v : mj_L} {h h' : mm_H} (hw : mk_wf A r u) (q : mk_M A E r u h) (k : mk_ch (fun c => 293 ≤ c ∧ c ≤ 297) h h') (e1 : ∀ j, 1 ≤ j → j < 5 → h'.1 293 j = h.1 293 j) (e2 : ∀ c j, 294 ≤ c → c ≤ 297 → 30 ≤ j → j < 150 → h'.1 c j = h.1 c j) (l0 : h'.1 293 0 = Int32.ofNat (v 0 0)) (l1 : ∀ k, k < v 0 0 → h'.1 294 k = Int32.ofNat (v 1 k) ∧ (¬ v 1 k = 3 → h'.1 295 k = Int32.ofNat (v 2 k)) ∧ (v 1 k = 0 → h'.1 296 k = Int32.ofNat (v 3 k)) ∧ (v 1 k ≤ 1 → h'.1 297 k = Int32.ofNat (v 4 k))) : mk_M A E r (mj_ul u v) h' := by
  have hP := hw.1.1.1
  have hS1 := hw.1.1.2.1
  obtain ⟨q1, q2, q3, q4, q5, q6, q7⟩ := q
  have e0 : mj_ul u v 0 = u 0 := mj_ul_o (by omega)
  have e261 : h'.1 261 = h.1 261 := k.e1 (by omega)
  have r3 := q3.ch k (by rw [e261]) (by omega)
  have r6 := q6.ch k (by rw [e261]) (by omega)
  have r7 := q7.ch k ⟨by omega, by omega⟩
  refine ⟨q1.ch k (fun j z => by omega), q2.ch k (by omega), ⟨by rw [e0]; exact r3.1, fun i hi => ?_⟩, fun m hm => ?_, ?_, ?_, fun p hp => ?_, fun k hk => ?_⟩
  · rw [e0] at hi
    rw [mj_ul_o (by have := hw.2.2.1.1; omega)]
    exact r3.2 i hi
  · rw [e0, mj_ul_o (by omega), k.e1 (c := 305) (by omega), k.e1 (c := 303) (by omega)]
    refine ⟨(q4 m hm).1, fun z => ⟨((q4 m hm).2 z).1, ?_⟩⟩
    have w := (hw.2.2.2.1.2 m hm z).2
    have sl := ((q4 m hm).2 z).2.sl (h' := h') ⟨w.1, w.2.1⟩ ⟨e1 (1 + m) (by omega) (by omega), by rw [k.e1 (by omega)]⟩ (fun c j c1 c2 hj => e2 c _ c1 c2 (by omega) (by omega)) (fun c j c1 c2 hj => by rw [k.e1 (by omega)])
    exact sl.mv (fun f hf => mj_ul_o (by omega))
  · unfold mk_TM at q5 ⊢
    rw [show 30 + 10 * 0 = 30 from rfl, show 31 + 10 * 0 = 31 from rfl, show 32 + 10 * 0 = 32 from rfl, show 33 + 10 * 0 = 33 from rfl, show 34 + 10 * 0 = 34 from rfl, show 35 + 10 * 0 = 35 from rfl, show 36 + 10 * 0 = 36 from rfl] at q5 ⊢
    rw [mj_ul_0.1, mj_ul_0.2, mj_ul_l (a := 31) (by omega), mj_ul_l (a := 32) (by omega), mj_ul_l (a := 33) (by omega), mj_ul_l (a := 34) (by omega), mj_ul_o (a := 35) (by omega), mj_ul_o (a := 36) (by omega), k.e1 (c := 298) (by omega), k.e1 (c := 299) (by omega), k.e1 (c := 300) (by omega)]
    refine ⟨l0, q5.2.1, fun j hj => ?_, q5.2.2.2⟩
    rw [show 30 * 0 + j = j by omega]
    exact l1 j hj
  · unfold mk_PM at r6 ⊢
    rw [mj_ul_o (by omega), mj_ul_o (by omega)]; exact r6
  · rw [mj_ul_o (by omega)]; exact r7.1 p hp
  · rw [mj_ul_o (by omega)]; exact r7.2 k hk
/-- what the reading of gossip leaves alone in the reference -/
def mj_gw (h h' : mm_H) : Prop := mk_ch (fun c => c = 261 ∨ (293 ≤ c ∧ c ≤ 297)) h h' ∧ (∀ j, ¬ j = 4 → ¬ j = 5 → ¬ j = 6 → ¬ j = 8 → ¬ j = 9 → ¬ j = 41 → h'.1 261 j = h.1 261 j) ∧ (∀ j, ¬ j = 5 → h'.1 293 j = h.1 293 j) ∧ ∀ c j, 294 ≤ c → c ≤ 297 → j < 150 → h'.1 c j = h.1 c j
theorem mj_gw.tr {h h1 h2 : mm_H} (a : mj_gw h h1) (b : mj_gw h1 h2) : mj_gw h h2 := ⟨a.1.tr b.1 (fun _ z => z) (fun _ z => z), fun j n1 n2 n3 n4 n5 n6 => (b.2.1 j n1 n2 n3 n4 n5 n6).trans (a.2.1 j n1 n2 n3 n4 n5 n6), fun j hj => (b.2.2.1 j hj).trans (a.2.2.1 j hj), fun c j c1 c2 hj => (b.2.2.2 c j c1 c2 hj).trans (a.2.2.2 c j c1 c2 hj)⟩
theorem mj_gm.gw {n : Nat} {h h' : mm_H} (k : mj_gm (150 + n) h h') : mj_gw h h' := ⟨k.1, fun j n1 n2 n3 n4 n5 n6 => k.2.1 j n1 n2 n3 n4 n5 n6, k.2.2.1, fun c j c1 c2 hj => k.2.2.2 c c1 c2 j (by omega)⟩
theorem mj_gw.p {h : mm_H} {j : Nat} {v : Int32} (hj : j = 4) : mj_gw h (mm_pI h 261 j v) := ⟨mk_ch.pI (Or.inl rfl), fun i n1 n2 n3 n4 n5 n6 => by rw [mp_I1, if_neg (by omega)], fun i _ => by rw [mp_I1, if_neg (by omega)], fun c i c1 c2 hi => by rw [mp_I1, if_neg (by omega)]⟩
theorem mj_gw.n {h : mm_H} {v : Int32} : mj_gw h (mm_pI h 293 5 v) := ⟨mk_ch.pI (Or.inr ⟨by omega, by omega⟩), fun i n1 n2 n3 n4 n5 n6 => by rw [mp_I1, if_neg (by omega)], fun i hi => by rw [mp_I1, if_neg (fun z => hi z.2)], fun c i c1 c2 hi => by rw [mp_I1, if_neg (by omega)]⟩
theorem mj_gw.rf {h : mm_H} : mj_gw h h := ⟨mk_ch.rf, fun _ _ _ _ _ _ _ => rfl, fun _ _ => rfl, fun _ _ _ _ _ => rfl⟩
theorem mk_fy.gw {h h' : mm_H} (k : mk_fy h h') : mj_gw h h' := (k.gm (n := 150 + 0)).gw
/-- both have read: a fault, or the lines -/
def mj_RR (P S : Nat) (hX hM : mm_H) (a c : Int32 × mm_H) : Prop := (∃ f, ¬ f = 0 ∧ a.1 = f ∧ c.1 = f ∧ mj_gx hX a.2 ∧ mj_gw hM c.2) ∨ (∃ v h, a.1 = 0 ∧ mj_gx hX a.2 ∧ mj_LX v 54 a.2 ∧ mj_LW P S v ∧ mj_gw hM h ∧ mj_LM v h ∧ c.1 = 0 ∧ f_M_laysLines 5 0 h = some c.2)
theorem mj_reads {t P S : Nat} {nP nS : Nat → Nat → Nat} {s : mk_S} {b : Nat} {v : mj_L} {hX hM : mm_H} (hs : mk_sgs s) (ht : t = 79 ∨ t = 96) (hP : P ≤ 6) (hS : S ≤ 10) (oP : mj_nms P nP) (oS : mj_nms S nS) (NX : mj_NAX t P S nP nS hX) (NM : mj_NAM 0 P S nP nS hM) (TX : mk_TKX s b hX) (h9 : hX.1 33 9 = 0) (TM : mk_TKM s b hM) (LX : mj_LX v 54 hX) (LM : mj_LM v hM) (LW : mj_LW P S v) : mj_two (mm_while (σ := (Int32 × mm_H)) (ρ := (Int32 × mm_H)) (fun s5 => if 1000 < s5.1 then (some (Sum.inr (0, s5.2))) else (if (s5.2.1 33 4) = 1 then (some (Sum.inr (0, s5.2))) else ((f_Go_readLine t 54 s5.2).bind fun v9 => if v9.1 = 0 then (some (Sum.inr ((v9.2.1 33 9), v9.2))) else (mm_let (s5.1 + 1) fun y10 => some (Sum.inl (y10, v9.2)))))) (0, hX)) (mm_while (σ := mm_H) (ρ := (Int32 × mm_H)) (fun s7 => if (s7.1 261 6) = 0 then ((f_M_laysLines 5 0 s7).bind fun v11 => some (Sum.inr (0, v11))) else ((f_M_readsLine s7).bind fun v13 => if v13.1 = 0 then (some (Sum.inr ((v13.2.1 261 9), v13.2))) else (some (Sum.inl v13.2)))) hM) (mj_RR P S hX hM) := by
  have s1 := hs.1
  refine mj_two.lp (fun n (x : Int32 × mm_H) (y : mm_H) => ∃ i b v, n = s.1 - b ∧ i ≤ b ∧ x.1 = Int32.ofNat i ∧ mj_gx hX x.2 ∧ mj_gw hM y ∧ mk_TKX s b x.2 ∧ x.2.1 33 9 = 0 ∧ mk_TKM s b y ∧ mj_LX v 54 x.2 ∧ mj_LM v y ∧ mj_LW P S v) (fun n x y hI => ?_) (s.1 - b) _ _ ⟨0, b, v, rfl, Nat.zero_le _, rfl, mj_gx.rf, mj_gw.rf, TX, h9, TM, LX, LM, LW⟩
  obtain ⟨i, b, v, en, ib, e1, kx, km, tx, x9, tm, lx, lm, lw⟩ := hI
  have bl := tx.1
  rw [e1, if_neg (fun z => absurd ((mn_llt (b := 1000) (show i < 2147483648 by omega) (by decide)).mp z) (show ¬ 1000 < i by omega)), tx.2.2.2.2.1, tm.2.2.2.2.2.1]
  by_cases k0 : mk_kd s b = 0
  · rw [if_pos ((mk_kX_eq s b).1.mpr k0), if_pos (by rw [k0]; rfl)]
    obtain ⟨v11, ev, _⟩ := mi_laysLines (i := 5) (k := 0) (h := y) (by omega) (by omega) (by omega)
    refine mj_two.ms (show f_M_laysLines 5 0 y = some v11 from ev) ?_
    exact mj_two.ret (Or.inr ⟨_, _, rfl, rfl, Or.inr ⟨v, y, rfl, kx, lx, lw, km, lm, rfl, ev⟩⟩)
  · rw [if_neg (fun z => k0 ((mk_kX_eq s b).1.mp z)), if_neg (fun z => k0 ((mn_eql (b := 0) (show mk_kd s b < 4294967296 by have := mk_kd_le s b; omega) (by decide)).mp z))]
    refine mj_two.both (mj_gline hs ht hP hS oP oS (NX.gx ht kx) (NM.ch km.1 ⟨by omega, by omega, by omega⟩) tx x9 tm lx lm lw) (fun a c R => ?_)
    rcases R with ⟨f, nz, r1, r2, r3, r4, r5, r6⟩ | ⟨b', v', lt, r1, r2, r3, r4, r5, r6, r7, r8, r9, r10⟩
    · rw [r1, r2, if_pos rfl, if_pos rfl, r3, r4]
      exact mj_two.ret (Or.inr ⟨_, _, rfl, rfl, Or.inl ⟨f, nz, rfl, rfl, kx.tr r5, km.tr r6.gw⟩⟩)
    · rw [r1, r2, if_neg (show ¬ (1 : Int32) = 0 by decide), if_neg (show ¬ (1 : Int32) = 0 by decide), show Int32.ofNat i + 1 = Int32.ofNat (i + 1) from mn_addl 1 i]
      have := r5.1
      exact mj_two.xl (mj_two.ret (Or.inl ⟨s.1 - b', _, _, rfl, rfl, ⟨i + 1, b', v', rfl, by omega, rfl, kx.tr r3, km.tr r4.gw, r5, r6, r7, r8, r9, r10⟩, by omega⟩))
