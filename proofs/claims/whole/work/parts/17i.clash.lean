/-! town: a clash's line -/
def mj_aC (A : mk_A) (a b : Nat) : mk_A := fun c k => if c = 263 ∧ k = 3 then A 263 3 + 1 else if c = 274 ∧ k = b then A 274 b ||| 2 ^ a else if c = 274 ∧ k = a then A 274 a ||| 2 ^ b else A c k
theorem mj_aC_o {A : mk_A} {a b c k : Nat} (h1 : ¬ (c = 263 ∧ k = 3)) (h2 : ¬ c = 274) : mj_aC A a b c k = A c k := by
  unfold mj_aC
  rw [if_neg h1, if_neg (fun z => h2 z.1), if_neg (fun z => h2 z.1)]
theorem mj_aC_n {A : mk_A} {a b : Nat} : mj_aC A a b 263 3 = A 263 3 + 1 := rfl
theorem mj_aC_c {A : mk_A} {a b k : Nat} : mj_aC A a b 274 k = if k = b then A 274 b ||| 2 ^ a else if k = a then A 274 a ||| 2 ^ b else A 274 k := by
  unfold mj_aC
  rw [if_neg (by omega)]
  by_cases e : k = b
  · rw [if_pos ⟨rfl, e⟩, if_pos e]
  · rw [if_neg (fun z => e z.2), if_neg e]
    by_cases e' : k = a
    · rw [if_pos ⟨rfl, e'⟩, if_pos e']
    · rw [if_neg (fun z => e' z.2), if_neg e']
theorem mj_BT.addC {A : mk_A} {nP nS : Nat → Nat → Nat} {a b : Nat} (B : mj_BT A nP nS) (ha : a < A 263 1) (hb : b < A 263 1) (hn : A 263 3 + 1 ≤ 1000) : mj_BT (mj_aC A a b) nP nS := by
  have o : ∀ c k, ¬ (c = 263 ∧ k = 3) → ¬ c = 274 → mj_aC A a b c k = A c k := fun c k x y => mj_aC_o x y
  obtain ⟨⟨⟨t1, t2, t3, t4⟩, t5, t6, t7, t8⟩, z, oP, oS, fa⟩ := B
  have p2 : ∀ x, x < A 263 1 → 2 ^ x < 2 ^ A 263 1 := fun x hx => Nat.pow_lt_pow_right (by omega) hx
  refine ⟨⟨⟨by rw [o 263 0 (by omega) (by omega)]; exact t1, by rw [o 263 1 (by omega) (by omega)]; exact t2, by rw [o 263 2 (by omega) (by omega)]; exact t3, by rw [mj_aC_n]; exact hn⟩, fun p hp => ?_, fun k hk => ?_, fun e he => ?_, fun e f he hf => ?_⟩, fun k k1 k2 => ?_, ?_, ?_, ?_⟩
  · rw [o 263 0 (by omega) (by omega)] at hp
    rw [o 266 p (by omega) (by omega), o 267 p (by omega) (by omega), o 268 p (by omega) (by omega)]; exact t5 p hp
  · rw [o 263 1 (by omega) (by omega)] at hk ⊢
    obtain ⟨q1, q2, q3, q4, q5, q6, q7⟩ := t6 k hk
    rw [o 263 0 (by omega) (by omega), o 269 k (by omega) (by omega), o 270 k (by omega) (by omega), o 271 k (by omega) (by omega), o 272 k (by omega) (by omega), o 273 k (by omega) (by omega), mj_aC_c]
    refine ⟨q1, q2, q3, q4, q5, q6, ?_⟩
    by_cases e : k = b
    · rw [if_pos e]; exact Nat.or_lt_two_pow (t6 b hb).2.2.2.2.2.2 (p2 a ha)
    · rw [if_neg e]
      by_cases e' : k = a
      · rw [if_pos e']; exact Nat.or_lt_two_pow (t6 a ha).2.2.2.2.2.2 (p2 b hb)
      · rw [if_neg e']; exact q7
  · rw [o 263 2 (by omega) (by omega)] at he
    rw [o 263 0 (by omega) (by omega), o 275 e (by omega) (by omega), o 276 e (by omega) (by omega), o 277 e (by omega) (by omega)]; exact t7 e he
  · rw [o 263 2 (by omega) (by omega)] at he
    rw [o 275 e (by omega) (by omega), o 276 e (by omega) (by omega), o 275 f (by omega) (by omega), o 276 f (by omega) (by omega)]; exact t8 e f he hf
  · rw [o 263 1 (by omega) (by omega)] at k1
    rw [mj_aC_c, if_neg (by omega), if_neg (by omega)]; exact z k k1 k2
  · rw [o 263 0 (by omega) (by omega)]; exact oP
  · rw [o 263 1 (by omega) (by omega)]; exact oS
  · rw [o 999 0 (by omega) (by omega), fa]
    unfold mk_fa
    rw [o 263 1 (by omega) (by omega)]
    exact (mj_set_cg (A 263 1) (fun i hi => by rw [o 269 i (by omega) (by omega)])).symm
theorem mj_BX.addC {A : mk_A} {nP nS : Nat → Nat → Nat} {d a b : Nat} {g : mm_H} (B : mj_BX A nP nS d g) (hab : ¬ a = b) : mj_BX (mj_aC A a b) nP nS d (mm_pI (mm_pI (mm_pI g (d + 13) a (Int32.ofNat (A 274 a ||| 2 ^ b))) (d + 13) b (Int32.ofNat (A 274 b ||| 2 ^ a))) d 17 (Int32.ofNat (A 263 3 + 1))) := by
  have o : ∀ c k, ¬ (c = 263 ∧ k = 3) → ¬ c = 274 → mj_aC A a b c k = A c k := fun c k x y => mj_aC_o x y
  obtain ⟨a1, a2, a3, a4, a5, a6, a7, a8, a9, a10, a11, a12, a13⟩ := B
  generalize hg : mm_pI (mm_pI (mm_pI g (d + 13) a (Int32.ofNat (A 274 a ||| 2 ^ b))) (d + 13) b (Int32.ofNat (A 274 b ||| 2 ^ a))) d 17 (Int32.ofNat (A 263 3 + 1)) = g'
  have v : ∀ c j, g'.1 c j = if c = d ∧ j = 17 then Int32.ofNat (A 263 3 + 1) else if c = d + 13 ∧ j = b then Int32.ofNat (A 274 b ||| 2 ^ a) else if c = d + 13 ∧ j = a then Int32.ofNat (A 274 a ||| 2 ^ b) else g.1 c j := fun c j => by
    rw [← hg, mp_I1, mp_I1, mp_I1]
  have v2 : g'.2 = g.2 := by rw [← hg]; rfl
  have far : ∀ c j, ¬ c = d ∨ ¬ j = 17 → ¬ c = d + 13 → g'.1 c j = g.1 c j := fun c j h1 h2 => by
    rw [v, if_neg (by omega), if_neg (by omega), if_neg (by omega)]
  refine ⟨?_, ?_, ?_, ?_, ?_, ?_, fun p hp => ?_, fun k hk => ?_, fun k hk => ?_, fun e he => ?_, fun p q hp hq => ?_, fun k hk => ?_, fun k hk => ?_⟩
  · rw [far _ _ (by omega) (by omega), o 263 0 (by omega) (by omega)]; exact a1
  · rw [far _ _ (by omega) (by omega), o 263 1 (by omega) (by omega)]; exact a2
  · rw [far _ _ (by omega) (by omega), o 263 2 (by omega) (by omega)]; exact a3
  · rw [v, if_pos ⟨rfl, rfl⟩, mj_aC_n]
  · rw [far _ _ (by omega) (by omega)]
    have cg : mk_pr (mj_aC A a b) = mk_pr A := by
      unfold mk_pr
      rw [o 263 0 (by omega) (by omega)]
      exact mj_set_cg (A 263 0) (fun i hi => by rw [o 266 i (by omega) (by omega)])
    rw [cg]; exact a5
  · rw [far _ _ (by omega) (by omega), o 999 0 (by omega) (by omega)]; exact a6
  · rw [o 263 0 (by omega) (by omega)] at hp
    rw [far _ _ (by omega) (by omega), far _ _ (by omega) (by omega), far _ _ (by omega) (by omega), o 266 p (by omega) (by omega), o 267 p (by omega) (by omega), o 268 p (by omega) (by omega)]; exact a7 p hp
  · rw [o 263 1 (by omega) (by omega)] at hk
    rw [far _ _ (by omega) (by omega), far _ _ (by omega) (by omega), far _ _ (by omega) (by omega), far _ _ (by omega) (by omega), o 270 k (by omega) (by omega), o 271 k (by omega) (by omega), o 272 k (by omega) (by omega), o 273 k (by omega) (by omega)]
    exact a8 k hk
  · rw [v, if_neg (by omega), mj_aC_c]
    by_cases e : k = b
    · rw [if_pos ⟨rfl, e⟩, if_pos e]
    · rw [if_neg (fun z => e z.2), if_neg e]
      by_cases e' : k = a
      · rw [if_pos ⟨rfl, e'⟩, if_pos e']
      · rw [if_neg (fun z => e' z.2), if_neg e']; exact a9 k hk
  · rw [o 263 2 (by omega) (by omega)] at he
    rw [far _ _ (by omega) (by omega), far _ _ (by omega) (by omega), o 275 e (by omega) (by omega), o 276 e (by omega) (by omega)]; exact a10 e he
  · rw [o 263 2 (by omega) (by omega), far _ _ (by omega) (by omega), mk_ear_cg (A := A) (A 263 2) (fun e he => ⟨o 275 e (by omega) (by omega), o 276 e (by omega) (by omega), o 277 e (by omega) (by omega)⟩)]; exact a11 p q hp hq
  · rw [o 263 0 (by omega) (by omega)] at hk
    rw [v2]; exact a12 k hk
  · rw [o 263 1 (by omega) (by omega)] at hk
    rw [v2]; exact a13 k hk
theorem mj_BM.addC {A : mk_A} {nP nS : Nat → Nat → Nat} {a b : Nat} {g : mm_H} (B : mj_BM A nP nS g) (hab : ¬ a = b) : mj_BM (mj_aC A a b) nP nS (mm_pI (mm_pI (mm_pI g 274 (10 + a) (Int32.ofNat (A 274 a ||| 2 ^ b))) 274 (10 + b) (Int32.ofNat (A 274 b ||| 2 ^ a))) 263 7 (Int32.ofNat (A 263 3 + 1))) := by
  have o : ∀ c k, ¬ (c = 263 ∧ k = 3) → ¬ c = 274 → mj_aC A a b c k = A c k := fun c k x y => mj_aC_o x y
  obtain ⟨a1, a2, a3, a4, a5, a6, a7, a8, a9⟩ := B
  generalize hg : mm_pI (mm_pI (mm_pI g 274 (10 + a) (Int32.ofNat (A 274 a ||| 2 ^ b))) 274 (10 + b) (Int32.ofNat (A 274 b ||| 2 ^ a))) 263 7 (Int32.ofNat (A 263 3 + 1)) = g'
  have v : ∀ c j, g'.1 c j = if c = 263 ∧ j = 7 then Int32.ofNat (A 263 3 + 1) else if c = 274 ∧ j = 10 + b then Int32.ofNat (A 274 b ||| 2 ^ a) else if c = 274 ∧ j = 10 + a then Int32.ofNat (A 274 a ||| 2 ^ b) else g.1 c j := fun c j => by
    rw [← hg, mp_I1, mp_I1, mp_I1]
  have v2 : g'.2 = g.2 := by rw [← hg]; rfl
  have far : ∀ c j, ¬ c = 263 ∨ ¬ j = 7 → ¬ c = 274 → g'.1 c j = g.1 c j := fun c j h1 h2 => by
    rw [v, if_neg (by omega), if_neg (by omega), if_neg (by omega)]
  refine ⟨?_, ?_, ?_, ?_, fun p hp => ?_, fun k hk => ?_, fun e he => ?_, fun k hk => ?_, fun k hk => ?_⟩
  · rw [far _ _ (by omega) (by omega), o 263 0 (by omega) (by omega)]; exact a1
  · rw [far _ _ (by omega) (by omega), o 263 1 (by omega) (by omega)]; exact a2
  · rw [far _ _ (by omega) (by omega), o 263 2 (by omega) (by omega)]; exact a3
  · rw [v, if_pos ⟨rfl, rfl⟩, mj_aC_n]
  · rw [o 263 0 (by omega) (by omega)] at hp
    rw [far _ _ (by omega) (by omega), far _ _ (by omega) (by omega), far _ _ (by omega) (by omega), o 266 p (by omega) (by omega), o 267 p (by omega) (by omega), o 268 p (by omega) (by omega)]; exact a5 p hp
  · rw [o 263 1 (by omega) (by omega)] at hk
    rw [far _ _ (by omega) (by omega), far _ _ (by omega) (by omega), far _ _ (by omega) (by omega), far _ _ (by omega) (by omega), far _ _ (by omega) (by omega), v, if_neg (by omega), o 269 k (by omega) (by omega), o 270 k (by omega) (by omega), o 271 k (by omega) (by omega), o 272 k (by omega) (by omega), o 273 k (by omega) (by omega), mj_aC_c]
    obtain ⟨q1, q2, q3, q4, q5, q6⟩ := a6 k hk
    refine ⟨q1, q2, q3, q4, q5, ?_⟩
    by_cases e : k = b
    · rw [if_pos ⟨rfl, by omega⟩, if_pos e]
    · rw [if_neg (fun z => e (by omega)), if_neg e]
      by_cases e' : k = a
      · rw [if_pos ⟨rfl, by omega⟩, if_pos e']
      · rw [if_neg (fun z => e' (by omega)), if_neg e']; exact q6
  · rw [o 263 2 (by omega) (by omega)] at he
    rw [far _ _ (by omega) (by omega), far _ _ (by omega) (by omega), far _ _ (by omega) (by omega), o 275 e (by omega) (by omega), o 276 e (by omega) (by omega), o 277 e (by omega) (by omega)]; exact a7 e he
  · rw [o 263 0 (by omega) (by omega)] at hk
    rw [v2]; exact a8 k hk
  · rw [o 263 1 (by omega) (by omega)] at hk
    rw [v2]; exact a9 k hk
theorem mj_clash {A : mk_A} {nP nS : Nat → Nat → Nat} {s : mk_S} {b d : Nat} {hX hM : mm_H} (hs : mk_sgs s) (hd : d = 79 ∨ d = 96) (w : mk_isw s b 9) (B : mj_BT A nP nS) (bc : A 263 3 ≤ b) (bX : mj_BX A nP nS d hX) (bM : mj_BM A nP nS hM) (TX : mk_TKX s b hX) (h9 : hX.1 33 9 = 0) (TM : mk_TKM s b hM) : mj_two (f_Tr_readClash d hX) (f_M_readsClash hM) (mj_TR s b d hX hM) := by
  have td : mm_tg d = 7 := (mk_tt hd).1
  have s1 := hs.1
  have bl := TX.1
  have d33 : 33 < d := by omega
  have bs := (mk_kd_1 w.1).1
  have hS := B.T.1.2.1
  unfold f_Tr_readClash f_M_readsClash
  rw [if_pos td]
  refine mj_pair (N := A 263 1) (nm := nS) (need := f_M_needsSecret 1) (KX := fun a c g => mm_jp (fun (j7 : Unit) => ((f_Ta_wrong 3 g).bind fun v11 => (mm_bo v11.1).bind fun b12 => some (b12, v11.2))) fun k9 => if c = a then (k9 ()) else ((mm_ix a 10).bind fun k14 => (f_X_bit (g.1 (d + 13) k14) c).bind fun v17 => if v17 = 1 then (k9 ()) else ((f_Ta_next g).bind fun v19 => (mm_ix a 10).bind fun k20 => (mm_ix a 10).bind fun k22 => mm_let (mm_pI v19 (d + 13) k22 ((v19.1 (d + 13) k20) ||| ((1 : Int32) <<< (c &&& 31)))) fun h24 => (mm_ix c 10).bind fun k26 => (mm_ix c 10).bind fun k28 => mm_let (mm_pI h24 (d + 13) k28 ((h24.1 (d + 13) k26) ||| ((1 : Int32) <<< (a &&& 31)))) fun h30 => mm_let (mm_pI h30 d 17 ((h30.1 d 17) + 1)) fun h32 => (f_Ta_takeSign 59 h32).bind fun v35 => (mm_bo v35.1).bind fun b36 => some (b36, v35.2)))) (KM := fun y5 y11 g => mm_jp (fun (j13 : Unit) => ((f_M_fails 3 g).bind fun v17 => (mm_bo v17.1).bind fun b18 => some (b18, v17.2))) fun k15 => if y5 = y11 then (k15 ()) else ((mm_ix (10 + y5) 20).bind fun k20 => if (((g.1 274 k20) >>> (y11 &&& 31)) &&& 1) = 1 then (k15 ()) else ((f_M_nextToken g).bind fun v23 => (mm_ix (10 + y5) 20).bind fun k24 => (mm_ix (10 + y5) 20).bind fun k26 => mm_let (mm_pI v23 274 k26 ((v23.1 274 k24) ||| ((1 : Int32) <<< (y11 &&& 31)))) fun h28 => (mm_ix (10 + y11) 20).bind fun k30 => (mm_ix (10 + y11) 20).bind fun k32 => mm_let (mm_pI h28 274 k32 ((h28.1 274 k30) ||| ((1 : Int32) <<< (y5 &&& 31)))) fun h34 => mm_let (mm_pI h34 263 7 ((h34.1 263 7) + 1)) fun h36 => (f_M_closes h36).bind fun v39 => (mm_bo v39.1).bind fun b40 => some (b40, v39.2)))) hs td d33 hS bs TX h9 TM (fun b h k T e => mj_FS td hS B.oS (bX.cr k (fun j z => by omega)).NX.2 T e) (fun b h k T e => mi_needsS1 (r := 1) (by omega) hS B.oS (bM.ch k (fun j z => by omega)).NM.2 T e) (fun b h k T e => mi_needsS0 (r := 1) (by omega) hS B.oS (bM.ch k (fun j z => by omega)).NM.2 T e) (fun f eX eM nz t1 t2 f1 f2 => Or.inl ⟨f, nz, rfl, rfl, f1, f2, t1, t2⟩) ?_
  intro a c b2 gX gM ha hc lt bs2 cX cX1 g9 T2 cM tM M2
  have b2l := T2.1
  have txg : mj_tx 13 d hX gX := ⟨cX.mono (fun _ z => Or.inl z), cX1⟩
  have bX2 := bX.cr cX (fun j z => by omega)
  have bM2 := bM.ch cM (fun j z => by omega)
  have lt274 : ∀ k, k < A 263 1 → A 274 k < 1024 := fun k hk => mk_s2 hS (B.T.2.2.1 k hk).2.2.2.2.2.2
  have ixa : mm_ix (Int32.ofNat a) 10 = some a := mn_ix (by omega) (by omega)
  have ixc : mm_ix (Int32.ofNat c) 10 = some c := mn_ix (by omega) (by omega)
  have iya : mm_ix (10 + Int32.ofNat a) 20 = some (10 + a) := by rw [mn_ladd 10]; exact mn_ix (show 10 + a < 20 by omega) (by omega)
  have iyc : mm_ix (10 + Int32.ofNat c) 20 = some (10 + c) := by rw [mn_ladd 10]; exact mn_ix (show 10 + c < 20 by omega) (by omega)
  have bad : mj_two ((f_Ta_wrong 3 gX).bind fun v13 => (mm_bo v13.1).bind fun b14 => some (b14, v13.2)) ((f_M_fails 3 gM).bind fun v67 => (mm_bo v67.1).bind fun b68 => some (b68, v67.2)) (mj_TR s b d hX hM) := by
    refine mj_two.x (mx_wrong (k := 3) T2 g9) (fun v9 ⟨x1, x2⟩ => ?_)
    refine mj_two.m (mi_fails (k := 3) M2) (fun w9 ⟨y1, y2⟩ => ?_)
    rw [x1, y1]
    exact mj_two.xs mk_bo0 (mj_two.ms mk_bo0 (mj_two.ret (mj_TR.f (mj_fv_nz (k := 3) (b := b2) (by omega) (by omega) (by omega)) txg tM x2 y2)))
  dsimp only [mm_jp]
  by_cases eq : a = c
  · rw [eq, if_pos rfl, if_pos rfl]
    exact bad
  · rw [if_neg (fun z => eq ((mn_eq (by omega) (by omega)).mp z).symm), if_neg (fun z => eq ((mn_eq (by omega) (by omega)).mp z))]
    have la := lt274 a ha
    have lc := lt274 c hc
    refine mj_two.xs ixa (mj_two.ms iya ?_)
    rw [bX2.cl a (by omega), (bM2.ss a ha).2.2.2.2.2, mn_bit (by omega) (by omega)]
    refine mj_two.xs (mn_xbit (by omega) (by omega)) ?_
    by_cases tb : (A 274 a).testBit c = true
    · rw [if_pos ((mn_b1 _).mpr tb), if_pos ((mn_b1 _).mpr tb)]
      exact bad
    · rw [if_neg (fun z => tb ((mn_b1 _).mp z)), if_neg (fun z => tb ((mn_b1 _).mp z))]
      refine mj_two.x (mx_ttake hs T2) (fun v19 ⟨x1, x2⟩ => ?_)
      refine mj_two.m (mi_ttake hs M2) (fun w19 ⟨y1, y2⟩ => ?_)
      have nt := mk_ntk_le (s := s) (b := b2) b2l
      have en := mk_en_lt bs2
      generalize mk_ntk s b2 = b3 at *
      have x9 : v19.1 33 9 = 0 := x1.2.2.trans g9
      have bX3 := bX2.cr x1.1 (fun j z => by omega)
      have bM3 := bM2.ch y1.1 (fun j z => by omega)
      have sa : (1 : Int32) <<< (Int32.ofNat a &&& 31) = Int32.ofNat (2 ^ a) := mn_shl (by omega)
      have sc : (1 : Int32) <<< (Int32.ofNat c &&& 31) = Int32.ofNat (2 ^ c) := mn_shl (by omega)
      -- the class
      refine mj_two.xs ixa (mj_two.xs ixa (mj_two.xl (mj_two.xs ixc (mj_two.xs ixc (mj_two.xl (mj_two.xl ?_))))))
      rw [bX3.cl a (by omega), sa, sc, mn_or]
      have e1 : (mm_pI v19 (d + 13) a (Int32.ofNat (A 274 a ||| 2 ^ c))).1 (d + 13) c = Int32.ofNat (A 274 c) := by rw [mp_I1, if_neg (by omega)]; exact bX3.cl c (by omega)
      rw [e1, mn_or]
      have e2 : (mm_pI (mm_pI v19 (d + 13) a (Int32.ofNat (A 274 a ||| 2 ^ c))) (d + 13) c (Int32.ofNat (A 274 c ||| 2 ^ a))).1 d 17 = Int32.ofNat (A 263 3) := by rw [mp_I1, if_neg (by omega), mp_I1, if_neg (by omega)]; exact bX3.c17
      rw [e2, show Int32.ofNat (A 263 3) + 1 = Int32.ofNat (A 263 3 + 1) from mn_addl 1 _]
      have bXn := bX3.addC (a := a) (b := c) eq
      have TXn : mk_TKX s b3 (mm_pI (mm_pI (mm_pI v19 (d + 13) a (Int32.ofNat (A 274 a ||| 2 ^ c))) (d + 13) c (Int32.ofNat (A 274 c ||| 2 ^ a))) d 17 (Int32.ofNat (A 263 3 + 1))) := ((x2.cell ⟨by omega, by omega⟩).cell ⟨by omega, by omega⟩).cell ⟨by omega, by omega⟩
      have txn : mj_tx 13 d hX (mm_pI (mm_pI (mm_pI v19 (d + 13) a (Int32.ofNat (A 274 a ||| 2 ^ c))) (d + 13) c (Int32.ofNat (A 274 c ||| 2 ^ a))) d 17 (Int32.ofNat (A 263 3 + 1))) := (((txg.tr x1.tx).tr (mj_tx.p ⟨by omega, by omega⟩ d33)).tr (mj_tx.p ⟨by omega, by omega⟩ d33)).tr (mj_tx.p ⟨by omega, by omega⟩ d33)
      have x9n : (mm_pI (mm_pI (mm_pI v19 (d + 13) a (Int32.ofNat (A 274 a ||| 2 ^ c))) (d + 13) c (Int32.ofNat (A 274 c ||| 2 ^ a))) d 17 (Int32.ofNat (A 263 3 + 1))).1 33 9 = 0 := by rw [mp_I1, if_neg (by omega), mp_I1, if_neg (by omega), mp_I1, if_neg (by omega)]; exact x9
      revert bXn TXn txn x9n
      generalize mm_pI (mm_pI (mm_pI v19 (d + 13) a (Int32.ofNat (A 274 a ||| 2 ^ c))) (d + 13) c (Int32.ofNat (A 274 c ||| 2 ^ a))) d 17 (Int32.ofNat (A 263 3 + 1)) = h32
      intro bXn TXn txn x9n
      -- the reference
      refine mj_two.ms iya (mj_two.ms iya (mj_two.ml (mj_two.ms iyc (mj_two.ms iyc (mj_two.ml (mj_two.ml ?_))))))
      rw [(bM3.ss a ha).2.2.2.2.2, mn_or]
      have e3 : (mm_pI w19 274 (10 + a) (Int32.ofNat (A 274 a ||| 2 ^ c))).1 274 (10 + c) = Int32.ofNat (A 274 c) := by rw [mp_I1, if_neg (by omega)]; exact (bM3.ss c hc).2.2.2.2.2
      rw [e3, mn_or]
      have e4 : (mm_pI (mm_pI w19 274 (10 + a) (Int32.ofNat (A 274 a ||| 2 ^ c))) 274 (10 + c) (Int32.ofNat (A 274 c ||| 2 ^ a))).1 263 7 = Int32.ofNat (A 263 3) := by rw [mp_I1, if_neg (by omega), mp_I1, if_neg (by omega)]; exact bM3.c7
      rw [e4, show Int32.ofNat (A 263 3) + 1 = Int32.ofNat (A 263 3 + 1) from mn_addl 1 _]
      have bMn := bM3.addC (a := a) (b := c) eq
      have TMn : mk_TKM s b3 (mm_pI (mm_pI (mm_pI w19 274 (10 + a) (Int32.ofNat (A 274 a ||| 2 ^ c))) 274 (10 + c) (Int32.ofNat (A 274 c ||| 2 ^ a))) 263 7 (Int32.ofNat (A 263 3 + 1))) := ((y2.cell ⟨by omega, by omega⟩).cell ⟨by omega, by omega⟩).cell ⟨by omega, by omega⟩
      have tyn : mj_ty 277 hM (mm_pI (mm_pI (mm_pI w19 274 (10 + a) (Int32.ofNat (A 274 a ||| 2 ^ c))) 274 (10 + c) (Int32.ofNat (A 274 c ||| 2 ^ a))) 263 7 (Int32.ofNat (A 263 3 + 1))) := (((tM.tr y1.ty).tr (mj_ty.p ⟨by omega, by omega⟩ (show 10 ≤ 10 + a by omega))).tr (mj_ty.p ⟨by omega, by omega⟩ (show 10 ≤ 10 + c by omega))).tr (mj_ty.p ⟨by omega, by omega⟩ (show 4 ≤ 7 by omega))
      revert bMn TMn tyn
      generalize mm_pI (mm_pI (mm_pI w19 274 (10 + a) (Int32.ofNat (A 274 a ||| 2 ^ c))) 274 (10 + c) (Int32.ofNat (A 274 c ||| 2 ^ a))) 263 7 (Int32.ofNat (A 263 3 + 1)) = h36
      intro bMn TMn tyn
      have b3l := x2.1
      have BTn := B.addC (a := a) (b := c) ha hc (by omega)
      refine mj_two.both (mj_close hs TXn x9n TMn) (fun p q Rr => ?_)
      obtain ⟨p1, p2⟩ := p
      obtain ⟨q1, q2⟩ := q
      rcases Rr with ⟨f, nz, o1, o2, o3, o4⟩ | ⟨lt4, o1, o2, ⟨o3, o4⟩, o5, o6⟩
      · obtain rfl : p1 = 0 := o1
        obtain rfl : q1 = 0 := o2
        exact mj_two.xs mk_bo0 (mj_two.ms mk_bo0 (mj_two.ret (mj_TR.f nz txn tyn o3 o4)))
      · obtain rfl : p1 = 1 := o1
        obtain rfl : q1 = 1 := o2
        refine mj_two.xs mk_bo1 (mj_two.ms mk_bo1 (mj_two.ret (Or.inr ⟨mk_ntk s b3, mj_aC A a c, nP, nS, by omega, rfl, rfl, txn.tr o3.tx, tyn.tr o5.ty, o4, o3.2.2.trans x9n, o6, BTn, ?_, bXn.cr o3.1 (fun j z => by omega), bMn.ch o5.1 (fun j z => by omega)⟩)))
        rw [mj_aC_n]; omega
