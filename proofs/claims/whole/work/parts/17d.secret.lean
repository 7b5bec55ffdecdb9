/-! town: a secret's line -/
def mj_aF (A : mk_A) (F : Nat) : mk_A := fun c k => if c = 999 ∧ k = 0 then F else A c k
theorem mj_aF_o {A : mk_A} {F c k : Nat} (h : ¬ c = 999) : mj_aF A F c k = A c k := if_neg (fun z => h z.1)
theorem mj_BX.aF {A : mk_A} {nP nS : Nat → Nat → Nat} {d F : Nat} {h : mm_H} (q : mj_BX A nP nS d h) : mj_BX (mj_aF A F) nP nS d (mm_pI h d 8 (Int32.ofNat F)) := by
  obtain ⟨a1, a2, a3, a4, a5, a6, a7, a8, a9, a10, a11, a12, a13⟩ := q
  have at0 : ∀ j, ¬ j = 8 → (mm_pI h d 8 (Int32.ofNat F)).1 d j = h.1 d j := fun j hj => by rw [mp_I1, if_neg (fun z => hj z.2)]
  have far : ∀ c j, ¬ c = d → (mm_pI h d 8 (Int32.ofNat F)).1 c j = h.1 c j := fun c j hc => by rw [mp_I1, if_neg (fun z => hc z.1)]
  refine ⟨?_, ?_, ?_, ?_, ?_, ?_, fun p hp => ?_, fun k hk => ?_, fun k hk => ?_, fun e he => ?_, fun p q hp hq => ?_, a12, a13⟩
  · rw [at0 0 (by omega)]; exact a1
  · rw [at0 6 (by omega)]; exact a2
  · rw [at0 13 (by omega)]; exact a3
  · rw [at0 17 (by omega)]; exact a4
  · rw [at0 5 (by omega)]; exact a5
  · rw [mp_I1, if_pos ⟨rfl, rfl⟩]; rfl
  · rw [far _ _ (by omega), far _ _ (by omega), far _ _ (by omega)]; exact a7 p hp
  · rw [far _ _ (by omega), far _ _ (by omega), far _ _ (by omega), far _ _ (by omega)]; exact a8 k hk
  · rw [far _ _ (by omega)]; exact a9 k hk
  · rw [far _ _ (by omega), far _ _ (by omega)]; exact a10 e he
  · rw [far _ _ (by omega), show mj_aF A F 263 2 = A 263 2 from rfl, mk_ear_cg (A := A) (A' := mj_aF A F) (A 263 2) (fun e _ => ⟨rfl, rfl, rfl⟩)]; exact a11 p q hp hq
def mj_aS (A : mk_A) (tr wh co on by' : Nat) : mk_A := fun c k => if c = 263 ∧ k = 1 then A 263 1 + 1 else if c = 999 ∧ k = 0 then A 999 0 ||| (if tr = 1 then 2 ^ A 263 1 else 0) else if (269 ≤ c ∧ c ≤ 273) ∧ k = A 263 1 then (if c = 269 then tr else if c = 270 then wh else if c = 271 then co else if c = 272 then on else by') else A c k
theorem mj_aS_o {A : mk_A} {tr wh co on by' c k : Nat} (h1 : ¬ (c = 263 ∧ k = 1)) (h2 : (269 ≤ c ∧ c ≤ 273) → ¬ k = A 263 1) (h3 : ¬ c = 999) : mj_aS A tr wh co on by' c k = A c k := by
  unfold mj_aS
  rw [if_neg h1, if_neg (fun z => h3 z.1), if_neg (fun z => h2 z.1 z.2)]
theorem mj_aS_n {A : mk_A} {tr wh co on by' : Nat} : mj_aS A tr wh co on by' 263 1 = A 263 1 + 1 ∧ mj_aS A tr wh co on by' 269 (A 263 1) = tr ∧ mj_aS A tr wh co on by' 270 (A 263 1) = wh ∧ mj_aS A tr wh co on by' 271 (A 263 1) = co ∧ mj_aS A tr wh co on by' 272 (A 263 1) = on ∧ mj_aS A tr wh co on by' 273 (A 263 1) = by' ∧ mj_aS A tr wh co on by' 999 0 = A 999 0 ||| (if tr = 1 then 2 ^ A 263 1 else 0) := by
  unfold mj_aS
  refine ⟨rfl, ?_, ?_, ?_, ?_, ?_, ?_⟩
  · rw [if_neg (by omega), if_neg (by omega), if_pos ⟨⟨by omega, by omega⟩, rfl⟩, if_pos rfl]
  · rw [if_neg (by omega), if_neg (by omega), if_pos ⟨⟨by omega, by omega⟩, rfl⟩, if_neg (by omega), if_pos rfl]
  · rw [if_neg (by omega), if_neg (by omega), if_pos ⟨⟨by omega, by omega⟩, rfl⟩, if_neg (by omega), if_neg (by omega), if_pos rfl]
  · rw [if_neg (by omega), if_neg (by omega), if_pos ⟨⟨by omega, by omega⟩, rfl⟩, if_neg (by omega), if_neg (by omega), if_neg (by omega), if_pos rfl]
  · rw [if_neg (by omega), if_neg (by omega), if_pos ⟨⟨by omega, by omega⟩, rfl⟩, if_neg (by omega), if_neg (by omega), if_neg (by omega), if_neg (by omega)]
  · rw [if_neg (by omega), if_pos ⟨rfl, rfl⟩]
theorem mj_BT.addS {A : mk_A} {nP nS : Nat → Nat → Nat} {tr wh co on by' : Nat} {w : Nat → Nat} (B : mj_BT A nP nS) (hS : A 263 1 < 10) (h1 : tr ≤ 1) (h2 : wh < A 263 0) (h3 : 1 ≤ co ∧ co ≤ 99) (h4 : on ≤ A 263 1) (h5 : by' < 2 ^ A 263 0) (hw : mk_nm w) : mj_BT (mj_aS A tr wh co on by') nP (mj_nn nS (A 263 1) w) := by
  obtain ⟨n0, n1, n2, n3, n4, n5, n6⟩ := mj_aS_n (A := A) (tr := tr) (wh := wh) (co := co) (on := on) (by' := by')
  have o : ∀ c k, ¬ (c = 263 ∧ k = 1) → ((269 ≤ c ∧ c ≤ 273) → ¬ k = A 263 1) → ¬ c = 999 → mj_aS A tr wh co on by' c k = A c k := fun c k a b e => mj_aS_o a b e
  obtain ⟨⟨⟨t1, t2, t3, t4⟩, t5, t6, t7, t8⟩, z, oP, oS, fa⟩ := B
  refine ⟨⟨⟨by rw [o 263 0 (by omega) (by omega) (by omega)]; exact t1, by rw [n0]; omega, by rw [o 263 2 (by omega) (by omega) (by omega)]; exact t3, by rw [o 263 3 (by omega) (by omega) (by omega)]; exact t4⟩, fun p hp => ?_, fun k hk => ?_, fun e he => ?_, fun e f he hf => ?_⟩, fun k k1 k2 => ?_, ?_, ?_, ?_⟩
  · rw [o 263 0 (by omega) (by omega) (by omega)] at hp
    rw [o 266 p (by omega) (by omega) (by omega), o 267 p (by omega) (by omega) (by omega), o 268 p (by omega) (by omega) (by omega)]; exact t5 p hp
  · rw [n0] at hk ⊢
    rw [o 263 0 (by omega) (by omega) (by omega), o 274 k (by omega) (by omega) (by omega)]
    by_cases e : k = A 263 1
    · rw [e, n1, n2, n3, n4, n5, z (A 263 1) (Nat.le_refl _) hS]
      exact ⟨h1, h2, h3.1, h3.2, h4, h5, Nat.two_pow_pos _⟩
    · obtain ⟨u1, u2, u3, u4, u5, u6, u7⟩ := t6 k (by omega)
      rw [o 269 k (by omega) (by omega) (by omega), o 270 k (by omega) (by omega) (by omega), o 271 k (by omega) (by omega) (by omega), o 272 k (by omega) (by omega) (by omega), o 273 k (by omega) (by omega) (by omega)]
      exact ⟨u1, u2, u3, u4, u5, u6, Nat.lt_of_lt_of_le u7 (Nat.pow_le_pow_right (by omega) (by omega))⟩
  · rw [o 263 2 (by omega) (by omega) (by omega)] at he
    rw [o 275 e (by omega) (by omega) (by omega), o 276 e (by omega) (by omega) (by omega), o 277 e (by omega) (by omega) (by omega), o 263 0 (by omega) (by omega) (by omega)]
    exact t7 e he
  · rw [o 263 2 (by omega) (by omega) (by omega)] at he
    rw [o 275 e (by omega) (by omega) (by omega), o 276 e (by omega) (by omega) (by omega), o 275 f (by omega) (by omega) (by omega), o 276 f (by omega) (by omega) (by omega)]
    exact t8 e f he hf
  · rw [n0] at k1
    rw [o 274 k (by omega) (by omega) (by omega)]; exact z k (by omega) k2
  · rw [o 263 0 (by omega) (by omega) (by omega)]; exact oP
  · rw [n0]; exact mj_nms_nn oS hw
  · rw [n6, fa]
    unfold mk_fa
    rw [n0]
    show _ = mk_set (fun k => decide (mj_aS A tr wh co on by' 269 k = 1)) (A 263 1) ||| ((decide (mj_aS A tr wh co on by' 269 (A 263 1) = 1)).toNat <<< A 263 1)
    have cg : mk_set (fun k => decide (mj_aS A tr wh co on by' 269 k = 1)) (A 263 1) = mk_set (fun k => decide (A 269 k = 1)) (A 263 1) := mj_set_cg (A 263 1) (fun i hi => by rw [o 269 i (by omega) (by omega) (by omega)])
    rw [n1, cg]
    by_cases k3 : tr = 1
    · rw [if_pos k3, decide_eq_true k3]
      show _ = _ ||| (1 <<< A 263 1)
      rw [Nat.one_shiftLeft]
    · rw [if_neg k3, decide_eq_false k3]
      show _ = _ ||| (0 <<< A 263 1)
      rw [Nat.zero_shiftLeft]
theorem mj_BX.addS {A : mk_A} {nP nS : Nat → Nat → Nat} {d tr wh co on by' : Nat} {w : Nat → Nat} {g : mm_H} (B : mj_BX (mj_aF A (A 999 0 ||| (if tr = 1 then 2 ^ A 263 1 else 0))) nP nS d g) (e1 : g.2.1 (d + 5) (A 263 1) = Int64.ofNat (mk_c32 w)) (e2 : g.1 (d + 6) (A 263 1) = Int32.ofNat wh) (e3 : g.1 (d + 7) (A 263 1) = Int32.ofNat co) (e4 : g.1 (d + 8) (A 263 1) = Int32.ofNat on - 1) (e5 : g.1 (d + 9) (A 263 1) = Int32.ofNat by') : mj_BX (mj_aS A tr wh co on by') nP (mj_nn nS (A 263 1) w) d (mm_pI g d 6 (Int32.ofNat (A 263 1 + 1))) := by
  obtain ⟨n0, n1, n2, n3, n4, n5, n6⟩ := mj_aS_n (A := A) (tr := tr) (wh := wh) (co := co) (on := on) (by' := by')
  have o : ∀ c k, ¬ (c = 263 ∧ k = 1) → ((269 ≤ c ∧ c ≤ 273) → ¬ k = A 263 1) → ¬ c = 999 → mj_aS A tr wh co on by' c k = A c k := fun c k a b e => mj_aS_o a b e
  obtain ⟨a1, a2, a3, a4, a5, a6, a7, a8, a9, a10, a11, a12, a13⟩ := B
  have far : ∀ c j, ¬ c = d → (mm_pI g d 6 (Int32.ofNat (A 263 1 + 1))).1 c j = g.1 c j := fun c j hc => by rw [mp_I1, if_neg (fun z => hc z.1)]
  have at0 : ∀ j, ¬ j = 6 → (mm_pI g d 6 (Int32.ofNat (A 263 1 + 1))).1 d j = g.1 d j := fun j h0 => by rw [mp_I1, if_neg (fun z => h0 z.2)]
  refine ⟨?_, ?_, ?_, ?_, ?_, ?_, fun p hp => ?_, fun k hk => ?_, fun k hk => ?_, fun e he => ?_, fun p q hp hq => ?_, fun k hk => ?_, fun k hk => ?_⟩
  · rw [at0 0 (by omega), o 263 0 (by omega) (by omega) (by omega)]; exact a1
  · rw [mp_I1, if_pos ⟨rfl, rfl⟩, n0]
  · rw [at0 13 (by omega), o 263 2 (by omega) (by omega) (by omega)]; exact a3
  · rw [at0 17 (by omega), o 263 3 (by omega) (by omega) (by omega)]; exact a4
  · rw [at0 5 (by omega)]
    have cg : mk_pr (mj_aS A tr wh co on by') = mk_pr A := by
      unfold mk_pr
      rw [o 263 0 (by omega) (by omega) (by omega)]
      exact mj_set_cg (A 263 0) (fun i hi => by rw [o 266 i (by omega) (by omega) (by omega)])
    rw [cg]; exact a5
  · rw [at0 8 (by omega), n6]; exact a6
  · rw [o 263 0 (by omega) (by omega) (by omega)] at hp
    rw [far _ _ (by omega), far _ _ (by omega), far _ _ (by omega), o 266 p (by omega) (by omega) (by omega), o 267 p (by omega) (by omega) (by omega), o 268 p (by omega) (by omega) (by omega)]; exact a7 p hp
  · rw [n0] at hk
    rw [far _ _ (by omega), far _ _ (by omega), far _ _ (by omega), far _ _ (by omega)]
    by_cases e : k = A 263 1
    · rw [e, n2, n3, n4, n5]; exact ⟨e2, e3, e4, e5⟩
    · rw [o 270 k (by omega) (by omega) (by omega), o 271 k (by omega) (by omega) (by omega), o 272 k (by omega) (by omega) (by omega), o 273 k (by omega) (by omega) (by omega)]
      exact a8 k (show k < A 263 1 by omega)
  · rw [far _ _ (by omega), o 274 k (by omega) (by omega) (by omega)]; exact a9 k hk
  · rw [o 263 2 (by omega) (by omega) (by omega)] at he
    rw [far _ _ (by omega), far _ _ (by omega), o 275 e (by omega) (by omega) (by omega), o 276 e (by omega) (by omega) (by omega)]; exact a10 e he
  · rw [far _ _ (by omega), o 263 2 (by omega) (by omega) (by omega), mk_ear_cg (A := mj_aF A (A 999 0 ||| (if tr = 1 then 2 ^ A 263 1 else 0))) (A 263 2) (fun e _ => ⟨o 275 e (by omega) (by omega) (by omega), o 276 e (by omega) (by omega) (by omega), o 277 e (by omega) (by omega) (by omega)⟩)]; exact a11 p q hp hq
  · rw [o 263 0 (by omega) (by omega) (by omega)] at hk
    exact a12 k hk
  · rw [n0] at hk
    show g.2.1 (d + 5) k = _
    unfold mj_nn
    by_cases e : k = A 263 1
    · rw [if_pos e, e]; exact e1
    · rw [if_neg e]; exact a13 k (show k < A 263 1 by omega)
theorem mj_BM.addS {A : mk_A} {nP nS : Nat → Nat → Nat} {tr wh co on by' : Nat} {w : Nat → Nat} {g : mm_H} (B : mj_BM A nP nS g) (z : A 274 (A 263 1) = 0) (e1 : g.2.1 265 (10 + A 263 1) = Int64.ofNat (mk_c27 w)) (e2 : g.1 269 (10 + A 263 1) = Int32.ofNat tr) (e3 : g.1 270 (10 + A 263 1) = Int32.ofNat wh) (e4 : g.1 271 (10 + A 263 1) = Int32.ofNat co) (e5 : g.1 272 (10 + A 263 1) = Int32.ofNat on - 1) (e6 : g.1 273 (10 + A 263 1) = Int32.ofNat by') (e7 : g.1 274 (10 + A 263 1) = 0) : mj_BM (mj_aS A tr wh co on by') nP (mj_nn nS (A 263 1) w) (mm_pI g 263 5 (Int32.ofNat (A 263 1 + 1))) := by
  obtain ⟨n0, n1, n2, n3, n4, n5, n6⟩ := mj_aS_n (A := A) (tr := tr) (wh := wh) (co := co) (on := on) (by' := by')
  have o : ∀ c k, ¬ (c = 263 ∧ k = 1) → ((269 ≤ c ∧ c ≤ 273) → ¬ k = A 263 1) → ¬ c = 999 → mj_aS A tr wh co on by' c k = A c k := fun c k a b e => mj_aS_o a b e
  obtain ⟨a1, a2, a3, a4, a5, a6, a7, a8, a9⟩ := B
  have far : ∀ c j, ¬ c = 263 → (mm_pI g 263 5 (Int32.ofNat (A 263 1 + 1))).1 c j = g.1 c j := fun c j hc => by rw [mp_I1, if_neg (fun z => hc z.1)]
  refine ⟨?_, ?_, ?_, ?_, fun p hp => ?_, fun k hk => ?_, fun e he => ?_, fun k hk => ?_, fun k hk => ?_⟩
  · rw [mp_I1, if_neg (by omega), o 263 0 (by omega) (by omega) (by omega)]; exact a1
  · rw [mp_I1, if_pos ⟨rfl, rfl⟩, n0]
  · rw [mp_I1, if_neg (by omega), o 263 2 (by omega) (by omega) (by omega)]; exact a3
  · rw [mp_I1, if_neg (by omega), o 263 3 (by omega) (by omega) (by omega)]; exact a4
  · rw [o 263 0 (by omega) (by omega) (by omega)] at hp
    rw [far _ _ (by omega), far _ _ (by omega), far _ _ (by omega), o 266 p (by omega) (by omega) (by omega), o 267 p (by omega) (by omega) (by omega), o 268 p (by omega) (by omega) (by omega)]; exact a5 p hp
  · rw [n0] at hk
    rw [far _ _ (by omega), far _ _ (by omega), far _ _ (by omega), far _ _ (by omega), far _ _ (by omega), far _ _ (by omega), o 274 k (by omega) (by omega) (by omega)]
    by_cases e : k = A 263 1
    · rw [e, n1, n2, n3, n4, n5, z]; exact ⟨e2, e3, e4, e5, e6, e7⟩
    · rw [o 269 k (by omega) (by omega) (by omega), o 270 k (by omega) (by omega) (by omega), o 271 k (by omega) (by omega) (by omega), o 272 k (by omega) (by omega) (by omega), o 273 k (by omega) (by omega) (by omega)]
      exact a6 k (by omega)
  · rw [o 263 2 (by omega) (by omega) (by omega)] at he
    rw [far _ _ (by omega), far _ _ (by omega), far _ _ (by omega), o 275 e (by omega) (by omega) (by omega), o 276 e (by omega) (by omega) (by omega), o 277 e (by omega) (by omega) (by omega)]; exact a7 e he
  · rw [o 263 0 (by omega) (by omega) (by omega)] at hk
    exact a8 k hk
  · rw [n0] at hk
    show g.2.1 265 (10 + k) = _
    unfold mj_nn
    by_cases e : k = A 263 1
    · rw [if_pos e, e]; exact e1
    · rw [if_neg e]; exact a9 k (by omega)
