/-! town: behind the reading, both sides -/
def mv_nat (x : Int32) : Nat := x.toBitVec.toNat
theorem mv_nat_of (x : Int32) : Int32.ofNat (mv_nat x) = x := by
  apply Int32.toBitVec_inj.1
  show BitVec.ofNat 32 x.toBitVec.toNat = x.toBitVec
  rw [BitVec.ofNat_toNat, BitVec.setWidth_eq]
/-- the town told; what lies behind its counts as the reference holds it -/
def mj_fx (A : mk_A) (h : mm_H) : mk_A := fun c k => if c = 263 ∨ (266 ≤ c ∧ c ≤ 268 ∧ k < A 263 0) ∨ (269 ≤ c ∧ c ≤ 274 ∧ k < A 263 1) ∨ (275 ≤ c ∧ c ≤ 277 ∧ k < A 263 2) then A c k else mv_nat (if c = 272 then h.1 c k + 1 else h.1 c k)
theorem mj_fx_i {A : mk_A} {h : mm_H} {c k : Nat} (q : c = 263 ∨ (266 ≤ c ∧ c ≤ 268 ∧ k < A 263 0) ∨ (269 ≤ c ∧ c ≤ 274 ∧ k < A 263 1) ∨ (275 ≤ c ∧ c ≤ 277 ∧ k < A 263 2)) : mj_fx A h c k = A c k := if_pos q
theorem mj_fx_T {A : mk_A} {h : mm_H} (q : mk_T A) : mk_T (mj_fx A h) := by
  obtain ⟨⟨t1, t2, t3, t4⟩, t5, t6, t7, t8⟩ := q
  have e0 : ∀ k, mj_fx A h 263 k = A 263 k := fun k => mj_fx_i (Or.inl rfl)
  refine ⟨⟨by rw [e0]; exact t1, by rw [e0]; exact t2, by rw [e0]; exact t3, by rw [e0]; exact t4⟩, fun p hp => ?_, fun k hk => ?_, fun e he => ?_, fun e f he hf => ?_⟩
  · rw [e0] at hp
    rw [mj_fx_i (by omega), mj_fx_i (by omega), mj_fx_i (by omega)]; exact t5 p hp
  · rw [e0] at hk
    rw [e0, e0, mj_fx_i (by omega), mj_fx_i (by omega), mj_fx_i (by omega), mj_fx_i (by omega), mj_fx_i (by omega), mj_fx_i (by omega)]; exact t6 k hk
  · rw [e0] at he
    rw [e0, mj_fx_i (by omega), mj_fx_i (by omega), mj_fx_i (by omega)]; exact t7 e he
  · rw [e0] at he
    rw [mj_fx_i (by omega), mj_fx_i (by omega), mj_fx_i (by omega), mj_fx_i (by omega)]; exact t8 e f he hf
theorem mj_fx_pr {A : mk_A} {h : mm_H} : mk_pr (mj_fx A h) = mk_pr A := by
  unfold mk_pr
  rw [mj_fx_i (c := 263) (Or.inl rfl)]
  exact mj_set_cg (A 263 0) (fun i hi => by rw [mj_fx_i (by omega)])
theorem mj_fx_fa {A : mk_A} {h : mm_H} : mk_fa (mj_fx A h) = mk_fa A := by
  unfold mk_fa
  rw [mj_fx_i (c := 263) (Or.inl rfl)]
  exact mj_set_cg (A 263 1) (fun i hi => by rw [mj_fx_i (by omega)])
theorem mj_BX.XT {A : mk_A} {nP nS : Nat → Nat → Nat} {E : mk_E} {d : Nat} {g hh : mm_H} (hd : d = 79 ∨ d = 96) (B : mj_BT A nP nS) (q : mj_BX A nP nS d g) (EX : mk_EX d E g) : mk_XT (mj_fx A hh) E d g := by
  obtain ⟨⟨t1, t2, t3, t4⟩, t5, t6, t7, t8⟩ := B.T
  have e0 : ∀ k, mj_fx A hh 263 k = A 263 k := fun k => mj_fx_i (Or.inl rfl)
  refine ⟨hd, ⟨by rw [e0]; exact q.c0, by rw [e0]; exact q.c6, by rw [e0]; exact q.c13, by rw [e0]; exact q.c17, by rw [mj_fx_pr]; exact q.c5, by rw [mj_fx_fa, ← B.fa]; exact q.c8⟩, fun p hp => ?_, fun k hk => ?_, fun e he => ?_, fun a b ha hb => ?_, EX⟩
  · rw [e0] at hp
    rw [mj_fx_i (by omega), mj_fx_i (by omega), mj_fx_i (by omega)]; exact q.pp p hp
  · rw [e0] at hk
    rw [mj_fx_i (by omega), mj_fx_i (by omega), mj_fx_i (by omega), mj_fx_i (by omega), mj_fx_i (by omega)]
    obtain ⟨r1, r2, r3, r4⟩ := q.ss k hk
    exact ⟨r1, r2, r3, r4, q.cl k (by omega)⟩
  · rw [e0] at he
    rw [mj_fx_i (by omega), mj_fx_i (by omega)]; exact q.ee e he
  · rw [e0] at ha hb
    rw [e0, mk_ear_cg (A := A) (A 263 2) (fun e he => ⟨mj_fx_i (by omega), mj_fx_i (by omega), mj_fx_i (by omega)⟩)]
    exact q.tb a b (by omega) (by omega)
theorem mv_LE.EX {d : Nat} {E : mk_E} {g k : mm_H} (hd : d = 79 ∨ d = 96) (L : mv_LE d E g k) : mk_EX d E g := by
  unfold mv_LE at L
  unfold mk_EX
  cases E with
  | none => exact L.1
  | some f =>
    obtain ⟨P, C, v, ⟨p1, p2, p3, p4⟩, l1, l2, l3, l4, l5, sX, sA, rfl⟩ := L
    dsimp only
    refine ⟨fun z => ?_, fun h' e1 e2 c n a hi => ?_⟩
    · rw [l1] at z
      have := (mn_eql (b := 0) (show P.length < 4294967296 by omega) (by decide)).mp z
      have : P.length = 0 := this
      omega
    · obtain ⟨w, w1, w2, w3⟩ := mx_value (a0 := d + 14) (P := P) (x1 := c) (x2 := n) (x3 := a) (x4 := hi) (h := h') (mk_tt hd).2 (e1.trans l1) p2 (by rw [show d + 14 + 1 = d + 15 from rfl, e2]; exact l2)
      rw [sX _ [] (by decide)] at w2
      exact ⟨w.2, by rw [w1]; exact congrArg some (Prod.ext w2 rfl), w3⟩
theorem mv_LE.EM {d : Nat} {E : mk_E} {g k v : mm_H} (L : mv_LE d E g k) (e8 : v.1 278 0 = k.1 278 1 - 1000) (e9 : v.1 279 0 = k.1 279 1 - 1000) (e0 : ∀ j, j < 1000 → v.1 280 j = k.1 280 (1000 + j)) : mk_EM E v := by
  unfold mv_LE at L
  unfold mk_EM
  cases E with
  | none =>
    dsimp only at L ⊢
    rw [e8, e9, L.2.1, L.2.2.1]
  | some f =>
    obtain ⟨P, C, w, ⟨p1, p2, p3, p4⟩, l1, l2, l3, l4, l5, sX, sA, rfl⟩ := L
    have f8 : v.1 278 0 = 0 := by rw [e8, l3]; decide
    have f9 : v.1 279 0 = Int32.ofNat C.length := by
      rw [e9, l4]
      refine (mn_subl (b := 1000) (show 1000 ≤ 1000 + C.length by omega)).trans ?_
      rw [show 1000 + C.length - OfNat.ofNat 1000 = C.length from Nat.add_sub_cancel_left 1000 C.length]
    dsimp only
    refine ⟨fun z => ?_, fun h' h8 h9 h0 => ?_⟩
    · rw [f8, f9] at z
      have := (mn_eql (b := 0) (show C.length < 4294967296 by omega) (by decide)).mp z
      have : C.length = 0 := this
      omega
    · obtain ⟨x, x1, x2, x3⟩ := mi_worked (C := C) (v := w) (h := h') (h8.trans f8) (h9.trans f9) p4 (fun j hj => by
        rw [Nat.zero_add, h0 j (by omega), e0 j (by omega)]
        exact l5 j hj) sA
      exact ⟨x.2, by rw [x1]; exact congrArg some (Prod.ext x2 rfl), x3⟩
/-- the store behind a town -/
def mj_ut (u : mk_U) (nP nS : Nat → Nat → Nat) : mk_U := fun a => if a = 0 then (fun j => if j = 1 then u 0 1 else 0) else if a = 30 then (fun _ => 0) else if a = 90 then (fun _ => 0) else if 100 ≤ a ∧ a < 106 then nP (a - 100) else if 110 ≤ a ∧ a < 120 then nS (a - 110) else u a
theorem mj_ut_p {u : mk_U} {nP nS : Nat → Nat → Nat} {p : Nat} (h : p < 6) : mj_ut u nP nS (100 + p) = nP p := by
  unfold mj_ut
  rw [if_neg (by omega), if_neg (by omega), if_neg (by omega), if_pos (by omega), show 100 + p - 100 = p by omega]
theorem mj_ut_s {u : mk_U} {nP nS : Nat → Nat → Nat} {k : Nat} (h : k < 10) : mj_ut u nP nS (110 + k) = nS k := by
  unfold mj_ut
  rw [if_neg (by omega), if_neg (by omega), if_neg (by omega), if_neg (by omega), if_pos (by omega), show 110 + k - 110 = k by omega]
theorem mj_ut_0 {u : mk_U} {nP nS : Nat → Nat → Nat} : mj_ut u nP nS 0 0 = 0 ∧ mj_ut u nP nS 0 1 = u 0 1 ∧ mj_ut u nP nS 0 2 = 0 ∧ mj_ut u nP nS 30 0 = 0 ∧ mj_ut u nP nS 30 1 = 0 ∧ mj_ut u nP nS 90 0 = 0 := ⟨rfl, rfl, rfl, rfl, rfl, rfl⟩
theorem mk_wf.ut {A A' : mk_A} {r : Nat → Nat} {u : mk_U} {nP nS : Nat → Nat → Nat} (hw : mk_wf A r u) (hT : mk_T A') (oP : mj_nms (A' 263 0) nP) (oS : mj_nms (A' 263 1) nS) : mk_wf A' (mk_fresh A') (mj_ut u nP nS) := by
  obtain ⟨v0, v1, v2, v3, v4, v5⟩ := mj_ut_0 (u := u) (nP := nP) (nS := nS)
  have hP := hT.1.1
  have hS := hT.1.2.1
  refine ⟨hT, mk_fresh_W hT, ⟨by rw [v0]; omega, by rw [v1]; exact hw.2.2.1.2.1, fun i hi => ?_⟩, ⟨by rw [v2]; omega, fun m hm hb => ?_⟩, ⟨?_, ?_, fun k hk => ?_, fun k hk => ?_⟩, ⟨by rw [v5]; omega, fun k hk => ?_⟩, fun p hp => ?_, fun k hk => ?_⟩
  · rw [v0] at hi; exact absurd hi (Nat.not_lt_zero i)
  · rw [v2, Nat.zero_testBit] at hb; exact absurd hb (by decide)
  · show mj_ut u nP nS 30 0 ≤ 30
    rw [v3]; omega
  · show mj_ut u nP nS 30 1 ≤ 10
    rw [v4]; omega
  · have : k < mj_ut u nP nS 30 0 := hk
    rw [v3] at this; exact absurd this (Nat.not_lt_zero k)
  · have : k < mj_ut u nP nS 30 1 := hk
    rw [v4] at this; exact absurd this (Nat.not_lt_zero k)
  · rw [v5] at hk; exact absurd hk (Nat.not_lt_zero k)
  · rw [mj_ut_p (by omega)]; exact oP p hp
  · rw [mj_ut_s (by omega)]; exact oS k hk
theorem mx_gTk {h : mm_H} {t k : Nat} (e : h.2.2 32 k = some t) (ht : t = 79 ∨ t = 96) : mm_gT h k = some t := by
  unfold mm_gT
  rw [e]
  exact if_pos (mk_tt ht).1
theorem mj_townX {A A' : mk_A} {E E' : mk_E} {t d : Nat} {r : Nat → Nat} {u : mk_U} {nP nS : Nat → Nat → Nat} {hX g hh : mm_H} (hw : mk_wf A r u) (iX : mk_X A E t r u hX) (ed : d = 175 - t) (B : mj_BT A' nP nS) (kx : mj_tx 15 d hX g) (bX : mj_BX A' nP nS d g) (EX : mk_EX d E' g) : mk_ok ((mm_gT (mm_pI g 33 1 0) 15).bind fun t7 => (mm_gT (mm_pI g 33 1 0) 14).bind fun t9 => mm_let (mm_pR (mm_pI g 33 1 0) 32 15 (some t9)) fun h11 => mm_let (mm_pR h11 32 14 (some t7)) fun h13 => (mm_gT h13 14).bind fun t15 => (f_St_begin 35 t15 h13).bind fun v18 => (f_Tk_clear 47 v18).bind fun v20 => mm_let (mm_pI v20 32 18 0) fun h21 => mm_let (mm_pI h21 32 16 0) fun h23 => some ((0 : Int32), h23)) (fun v => v.1 = 0 ∧ mk_fM hX v.2 ∧ mk_X (mj_fx A' hh) E' d (mk_fresh (mj_fx A' hh)) (mj_ut u nP nS) v.2) := by
  have ht := iX.2.1.1
  have hd : d = 79 ∨ d = 96 := by omega
  have r14 : (mm_pI g 33 1 0).2.2 32 14 = some t := (kx.1.2 32 14 (by omega)).trans iX.1.1
  have r15 : (mm_pI g 33 1 0).2.2 32 15 = some d := by rw [ed]; exact (kx.1.2 32 15 (by omega)).trans iX.1.2
  obtain ⟨v0, v1, v2, v3, v4, v5⟩ := mj_ut_0 (u := u) (nP := nP) (nS := nS)
  have hT' : mk_T (mj_fx A' hh) := mj_fx_T B.T
  have hP := hT'.1.1
  have hS := hT'.1.2.1
  refine mk_ok.bs (mx_gTk r15 hd) (mk_ok.bs (mx_gTk r14 ht) (mk_ok.let (mk_ok.let ?_)))
  have w14 : (mm_pR (mm_pR (mm_pI g 33 1 0) 32 15 (some t)) 32 14 (some d)).2.2 32 14 = some d := by rw [mp_R3, if_pos ⟨rfl, rfl⟩]
  have w15 : (mm_pR (mm_pR (mm_pI g 33 1 0) 32 15 (some t)) 32 14 (some d)).2.2 32 15 = some t := by rw [mp_R3, if_neg (by omega), mp_R3, if_pos ⟨rfl, rfl⟩]
  have w1 : (mm_pR (mm_pR (mm_pI g 33 1 0) 32 15 (some t)) 32 14 (some d)).1 = (mm_pI g 33 1 0).1 := rfl
  have w2 : (mm_pR (mm_pR (mm_pI g 33 1 0) 32 15 (some t)) 32 14 (some d)).2.1 = g.2.1 := rfl
  revert w14 w15 w1 w2
  generalize mm_pR (mm_pR (mm_pI g 33 1 0) 32 15 (some t)) 32 14 (some d) = h13
  intro w14 w15 w1 w2
  have c13 : ∀ c, ¬ c = 33 → h13.1 c = g.1 c := fun c hc => by
    rw [w1]
    funext j
    rw [mp_I1, if_neg (fun z => hc z.1)]
  have XT : mk_XT (mj_fx A' hh) E' d h13 := (bX.XT (hh := hh) hd B EX).ch (D := fun c => c = 33) (h' := (h13.1, h13.2.1, g.2.2)) ⟨fun c hc => ⟨c13 c hc, by rw [w2]⟩, rfl⟩ (fun j z => by omega)
  refine mk_ok.bs (mx_gTk w14 hd) ?_
  refine mk_ok.bind (mx_begin hT' XT (a := 35) (by unfold mk_sa; omega)) (fun v18 ⟨b1, b2⟩ => ?_)
  unfold f_Tk_clear
  rw [if_pos mj_t54.2]
  refine mk_ok.let (mk_ok.let ?_)
  refine mk_ok.bs rfl (mk_ok.let (mk_ok.let ?_))
  have k2 : mk_ch (fun c => c = 47 ∨ c = 32) v18 (mm_pI (mm_pI (mm_pI (mm_pI v18 47 0 0) 47 5 0) 32 18 0) 32 16 0) := (((mk_ch.pI (D := fun c => c = 47 ∨ c = 32) (Or.inl rfl)).tr (mk_ch.pI (D := fun c => c = 47 ∨ c = 32) (Or.inl rfl)) (fun _ z => z) (fun _ z => z)).tr (mk_ch.pI (D := fun c => c = 47 ∨ c = 32) (Or.inr rfl)) (fun _ z => z) (fun _ z => z)).tr (mk_ch.pI (D := fun c => c = 47 ∨ c = 32) (Or.inr rfl)) (fun _ z => z) (fun _ z => z)
  have kv : ∀ c j, (mm_pI (mm_pI (mm_pI (mm_pI v18 47 0 0) 47 5 0) 32 18 0) 32 16 0).1 c j = if c = 32 ∧ j = 16 then 0 else if c = 32 ∧ j = 18 then 0 else if c = 47 ∧ j = 5 then 0 else if c = 47 ∧ j = 0 then 0 else v18.1 c j := fun c j => by rw [mp_I1, mp_I1, mp_I1, mp_I1]
  revert k2 kv
  generalize mm_pI (mm_pI (mm_pI (mm_pI v18 47 0 0) 47 5 0) 32 18 0) 32 16 0 = h23
  intro k2 kv
  have far : ∀ c, ¬ (35 ≤ c ∧ c ≤ 40) → ¬ c = 47 → ¬ c = 32 → h23.1 c = h13.1 c ∧ h23.2.1 c = h13.2.1 c := fun c n1 n2 n3 => ⟨(k2.e1 (by omega)).trans (b1.e1 n1), (k2.e2 (by omega)).trans (b1.e2 n1)⟩
  have refs : h23.2.2 = h13.2.2 := k2.2.trans b1.2
  refine mk_ok.ret ⟨rfl, fun c hc => ?_, ⟨⟨by rw [refs]; exact w14, by rw [refs, ed, show 175 - (175 - t) = t by omega]; exact w15⟩, XT.ch (b1.tr k2 (D := fun c => (35 ≤ c ∧ c ≤ 40) ∨ c = 47 ∨ c = 32) (fun _ z => Or.inl z) (fun _ z => Or.inr z)) (fun j z => by omega), b2.ch k2 (fun j z => by omega), ⟨?_, ?_, fun i hi => ?_⟩, ⟨?_, fun m hm hb => ?_⟩, ⟨?_, ?_, fun k hk => ?_, fun k hk => ?_⟩, ⟨?_, fun k hk => ?_⟩, fun p hp => ?_, fun k hk => ?_⟩⟩
  · obtain ⟨f1, f2⟩ := far c (by omega) (by omega) (by omega)
    have := kx.1.1 c (by omega)
    exact ⟨by dsimp only; rw [f1, c13 c (by omega)]; exact this.1, by dsimp only; rw [f2, w2]; exact this.2⟩
  · dsimp only
    rw [kv, if_pos ⟨rfl, rfl⟩, v0]; rfl
  · dsimp only
    rw [kv, if_neg (by omega), if_neg (by omega), if_neg (by omega), if_neg (by omega), b1.e1 (c := 32) (by omega), c13 32 (by omega), kx.1.e1 (c := 32) (by omega), v1]
    exact iX.2.2.2.1.2.1
  · rw [v0] at hi; exact absurd hi (Nat.not_lt_zero i)
  · dsimp only
    rw [kv, if_neg (by omega), if_pos ⟨rfl, rfl⟩, v2]; rfl
  · rw [v2, Nat.zero_testBit] at hb; exact absurd hb (by decide)
  · show h23.1 47 0 = Int32.ofNat (mj_ut u nP nS 30 0)
    rw [kv, if_neg (by omega), if_neg (by omega), if_neg (by omega), if_pos ⟨rfl, rfl⟩, v3]; rfl
  · show h23.1 47 5 = Int32.ofNat (mj_ut u nP nS 30 1)
    rw [kv, if_neg (by omega), if_neg (by omega), if_pos ⟨rfl, rfl⟩, v4]; rfl
  · have : k < mj_ut u nP nS 30 0 := hk
    rw [v3] at this; exact absurd this (Nat.not_lt_zero k)
  · have : k < mj_ut u nP nS 30 1 := hk
    rw [v4] at this; exact absurd this (Nat.not_lt_zero k)
  · dsimp only
    rw [kv, if_neg (by omega), if_neg (by omega), if_neg (by omega), if_neg (by omega), b1.e1 (c := 33) (by omega), w1, mp_I1, if_pos ⟨rfl, rfl⟩, v5]; rfl
  · rw [v5] at hk; exact absurd hk (Nat.not_lt_zero k)
  · have e0 : mj_fx A' hh 263 0 = A' 263 0 := mj_fx_i (Or.inl rfl)
    dsimp only
    rw [(far (d + 1) (by omega) (by omega) (by omega)).2, w2, mj_ut_p (by omega)]
    exact bX.np p (by rw [← e0]; exact hp)
  · have e0 : mj_fx A' hh 263 1 = A' 263 1 := mj_fx_i (Or.inl rfl)
    dsimp only
    rw [(far (d + 5) (by omega) (by omega) (by omega)).2, w2, mj_ut_s (by omega)]
    exact bX.ns k (by rw [← e0]; exact hk)
