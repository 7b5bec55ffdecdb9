/-! town: a person's line -/
def mj_lk (d : Nat) (hX gX hM gM : mm_H) : Prop := gX.1 (d + 14) = hX.1 (d + 14) ∧ gX.1 (d + 15) = hX.1 (d + 15) ∧ gM.1 278 = hM.1 278 ∧ gM.1 279 = hM.1 279 ∧ gM.1 280 = hM.1 280 ∧ gM.1 261 28 = hM.1 261 28
theorem mj_lk.of {d : Nat} {hX gX hM gM : mm_H} (hd : 33 < d) (x : mj_tx 13 d hX gX) (y : mj_ty 277 hM gM) : mj_lk d hX gX hM gM := ⟨x.1.e1 (by omega), x.1.e1 (by omega), y.1.e1 (by omega), y.1.e1 (by omega), y.1.e1 (by omega), y.2.1 28 (by omega) (by omega) (by omega) (by omega) (by omega) (fun _ => by omega) (by omega)⟩
def mj_TR (s : mk_S) (b d : Nat) (hX hM : mm_H) (a c : Int32 × mm_H) : Prop := (∃ f, ¬ f = 0 ∧ a.1 = 0 ∧ c.1 = 0 ∧ a.2.1 33 9 = f ∧ c.2.1 261 9 = f ∧ mj_tx 13 d hX a.2 ∧ mj_ty 277 hM c.2) ∨ (∃ (b' : Nat) (A' : mk_A) (nP' nS' : Nat → Nat → Nat), b < b' ∧ a.1 = 1 ∧ c.1 = 1 ∧ mj_tx 13 d hX a.2 ∧ mj_ty 277 hM c.2 ∧ mk_TKX s b' a.2 ∧ a.2.1 33 9 = 0 ∧ mk_TKM s b' c.2 ∧ mj_BT A' nP' nS' ∧ A' 263 3 ≤ b' ∧ mj_BX A' nP' nS' d a.2 ∧ mj_BM A' nP' nS' c.2)
theorem mj_TR.f {s : mk_S} {b d : Nat} {hX hM gX gM eX eM : mm_H} {f : Int32} (nz : ¬ f = 0) (kx : mj_tx 13 d hX gX) (km : mj_ty 277 hM gM) (x : mk_FX f gX eX) (m : mk_FM f gM eM) : mj_TR s b d hX hM (0, eX) (0, eM) := Or.inl ⟨f, nz, rfl, rfl, x.2.2, m.2.2, kx.tr x.tx, km.tr m.ty⟩
theorem mj_two.xu {α α' α'' β : Type} {o : Option α''} {f : α'' → Option α'} {g : α' → Option α} {oM : Option β} {R : α → β → Prop} (h : mj_two ((o.bind f).bind g) oM R) : mj_two (o.bind fun x => (f x).bind g) oM R := by
  rw [← Option.bind_assoc]; exact h
theorem mk_ear_cg {A A' : mk_A} {p q : Nat} : ∀ n, (∀ e, e < n → A' 275 e = A 275 e ∧ A' 276 e = A 276 e ∧ A' 277 e = A 277 e) → mk_ear A' p q n = mk_ear A p q n
  | 0, _ => rfl
  | n + 1, h => by
    obtain ⟨h1, h2, h3⟩ := h n (by omega)
    show (if A' 275 n = p ∧ A' 276 n = q then A' 277 n + 1 else mk_ear A' p q n) = (if A 275 n = p ∧ A 276 n = q then A 277 n + 1 else mk_ear A p q n)
    rw [h1, h2, h3, mk_ear_cg n (fun e he => h e (by omega))]
theorem mj_set_cg {f g : Nat → Bool} : ∀ n, (∀ i, i < n → g i = f i) → mk_set g n = mk_set f n
  | 0, _ => rfl
  | n + 1, h => by
    show mk_set g n ||| ((g n).toNat <<< n) = mk_set f n ||| ((f n).toNat <<< n)
    rw [mj_set_cg n (fun i hi => h i (by omega)), h n (by omega)]
/-- what lies behind the counts may be written -/
theorem mj_BX.w {A : mk_A} {nP nS : Nat → Nat → Nat} {d c j : Nat} {v : Int32} {h : mm_H} (q : mj_BX A nP nS d h) (hc : ((c = d + 2 ∨ c = d + 3 ∨ c = d + 4) ∧ A 263 0 ≤ j) ∨ ((c = d + 6 ∨ c = d + 7 ∨ c = d + 8 ∨ c = d + 9) ∧ A 263 1 ≤ j) ∨ ((c = d + 10 ∨ c = d + 11) ∧ A 263 2 ≤ j)) : mj_BX A nP nS d (mm_pI h c j v) := by
  obtain ⟨a1, a2, a3, a4, a5, a6, a7, a8, a9, a10, a11, a12, a13⟩ := q
  refine ⟨?_, ?_, ?_, ?_, ?_, ?_, fun p hp => ?_, fun k hk => ?_, fun k hk => ?_, fun e he => ?_, fun p q hp hq => ?_, a12, a13⟩
  · rw [mp_I1, if_neg (by omega)]; exact a1
  · rw [mp_I1, if_neg (by omega)]; exact a2
  · rw [mp_I1, if_neg (by omega)]; exact a3
  · rw [mp_I1, if_neg (by omega)]; exact a4
  · rw [mp_I1, if_neg (by omega)]; exact a5
  · rw [mp_I1, if_neg (by omega)]; exact a6
  · rw [mp_I1, if_neg (by omega), mp_I1, if_neg (by omega), mp_I1, if_neg (by omega)]; exact a7 p hp
  · rw [mp_I1, if_neg (by omega), mp_I1, if_neg (by omega), mp_I1, if_neg (by omega), mp_I1, if_neg (by omega)]; exact a8 k hk
  · rw [mp_I1, if_neg (by omega)]; exact a9 k hk
  · rw [mp_I1, if_neg (by omega), mp_I1, if_neg (by omega)]; exact a10 e he
  · rw [mp_I1, if_neg (by omega)]; exact a11 p q hp hq
theorem mj_BX.wL {A : mk_A} {nP nS : Nat → Nat → Nat} {d c j : Nat} {v : Int64} {h : mm_H} (q : mj_BX A nP nS d h) (hc : (c = d + 1 ∧ A 263 0 ≤ j) ∨ (c = d + 5 ∧ A 263 1 ≤ j)) : mj_BX A nP nS d (mm_pL h c j v) := by
  obtain ⟨a1, a2, a3, a4, a5, a6, a7, a8, a9, a10, a11, a12, a13⟩ := q
  exact ⟨a1, a2, a3, a4, a5, a6, a7, a8, a9, a10, a11, fun k hk => by rw [mp_L2, if_neg (by omega)]; exact a12 k hk, fun k hk => by rw [mp_L2, if_neg (by omega)]; exact a13 k hk⟩
theorem mj_BM.w {A : mk_A} {nP nS : Nat → Nat → Nat} {c j : Nat} {v : Int32} {h : mm_H} (q : mj_BM A nP nS h) (hc : ((266 ≤ c ∧ c ≤ 268) ∧ 6 + A 263 0 ≤ j) ∨ ((269 ≤ c ∧ c ≤ 274) ∧ 10 + A 263 1 ≤ j) ∨ ((275 ≤ c ∧ c ≤ 277) ∧ 30 + A 263 2 ≤ j)) : mj_BM A nP nS (mm_pI h c j v) := by
  obtain ⟨a1, a2, a3, a4, a5, a6, a7, a8, a9⟩ := q
  refine ⟨?_, ?_, ?_, ?_, fun p hp => ?_, fun k hk => ?_, fun e he => ?_, a8, a9⟩
  · rw [mp_I1, if_neg (by omega)]; exact a1
  · rw [mp_I1, if_neg (by omega)]; exact a2
  · rw [mp_I1, if_neg (by omega)]; exact a3
  · rw [mp_I1, if_neg (by omega)]; exact a4
  · rw [mp_I1, if_neg (by omega), mp_I1, if_neg (by omega), mp_I1, if_neg (by omega)]; exact a5 p hp
  · rw [mp_I1, if_neg (by omega), mp_I1, if_neg (by omega), mp_I1, if_neg (by omega), mp_I1, if_neg (by omega), mp_I1, if_neg (by omega), mp_I1, if_neg (by omega)]; exact a6 k hk
  · rw [mp_I1, if_neg (by omega), mp_I1, if_neg (by omega), mp_I1, if_neg (by omega)]; exact a7 e he
theorem mj_BM.wL {A : mk_A} {nP nS : Nat → Nat → Nat} {c j : Nat} {v : Int64} {h : mm_H} (q : mj_BM A nP nS h) (hc : (c = 264 ∧ 6 + A 263 0 ≤ j) ∨ (c = 265 ∧ 10 + A 263 1 ≤ j)) : mj_BM A nP nS (mm_pL h c j v) := by
  obtain ⟨a1, a2, a3, a4, a5, a6, a7, a8, a9⟩ := q
  exact ⟨a1, a2, a3, a4, a5, a6, a7, fun k hk => by rw [mp_L2, if_neg (by omega)]; exact a8 k hk, fun k hk => by rw [mp_L2, if_neg (by omega)]; exact a9 k hk⟩
def mj_aP (A : mk_A) (kd rk tx : Nat) : mk_A := fun c k => if c = 263 ∧ k = 0 then A 263 0 + 1 else if c = 266 ∧ k = A 263 0 then kd else if c = 267 ∧ k = A 263 0 then rk else if c = 268 ∧ k = A 263 0 then tx else A c k
def mj_nn (nm : Nat → Nat → Nat) (N : Nat) (w : Nat → Nat) : Nat → Nat → Nat := fun k => if k = N then w else nm k
theorem mj_aP_o {A : mk_A} {kd rk tx c k : Nat} (h1 : ¬ (c = 263 ∧ k = 0)) (h2 : (266 ≤ c ∧ c ≤ 268) → ¬ k = A 263 0) : mj_aP A kd rk tx c k = A c k := by
  unfold mj_aP
  rw [if_neg h1, if_neg (fun z => h2 (by omega) z.2), if_neg (fun z => h2 (by omega) z.2), if_neg (fun z => h2 (by omega) z.2)]
theorem mj_aP_n {A : mk_A} {kd rk tx : Nat} : mj_aP A kd rk tx 263 0 = A 263 0 + 1 ∧ mj_aP A kd rk tx 266 (A 263 0) = kd ∧ mj_aP A kd rk tx 267 (A 263 0) = rk ∧ mj_aP A kd rk tx 268 (A 263 0) = tx := by
  unfold mj_aP
  refine ⟨rfl, ?_, ?_, ?_⟩
  · rw [if_neg (by omega), if_pos ⟨rfl, rfl⟩]
  · rw [if_neg (by omega), if_neg (by omega), if_pos ⟨rfl, rfl⟩]
  · rw [if_neg (by omega), if_neg (by omega), if_neg (by omega), if_pos ⟨rfl, rfl⟩]
theorem mj_nms_nn {nm : Nat → Nat → Nat} {N : Nat} {w : Nat → Nat} (h : mj_nms N nm) (hw : mk_nm w) : mj_nms (N + 1) (mj_nn nm N w) := fun k hk => by
  unfold mj_nn
  by_cases e : k = N
  · rw [if_pos e]; exact hw
  · rw [if_neg e]; exact h k (by omega)
theorem mj_BT.addP {A : mk_A} {nP nS : Nat → Nat → Nat} {kd rk tx : Nat} {w : Nat → Nat} (B : mj_BT A nP nS) (hP : A 263 0 < 6) (h1 : kd ≤ 3) (h2 : rk ≤ 9) (h3 : tx ≤ 999) (hw : mk_nm w) : mj_BT (mj_aP A kd rk tx) (mj_nn nP (A 263 0) w) nS := by
  obtain ⟨n0, n1, n2, n3⟩ := mj_aP_n (A := A) (kd := kd) (rk := rk) (tx := tx)
  have o : ∀ c k, ¬ (c = 263 ∧ k = 0) → ((266 ≤ c ∧ c ≤ 268) → ¬ k = A 263 0) → mj_aP A kd rk tx c k = A c k := fun c k a b => mj_aP_o a b
  obtain ⟨⟨⟨t1, t2, t3, t4⟩, t5, t6, t7, t8⟩, z, oP, oS, fa⟩ := B
  refine ⟨⟨⟨by rw [n0]; omega, by rw [o 263 1 (by omega) (by omega)]; exact t2, by rw [o 263 2 (by omega) (by omega)]; exact t3, by rw [o 263 3 (by omega) (by omega)]; exact t4⟩, fun p hp => ?_, fun k hk => ?_, fun e he => ?_, fun e f he hf => ?_⟩, fun k k1 k2 => ?_, ?_, ?_, ?_⟩
  · rw [n0] at hp
    by_cases e : p = A 263 0
    · rw [e, n1, n2, n3]; exact ⟨h1, h2, h3⟩
    · rw [o 266 p (by omega) (by omega), o 267 p (by omega) (by omega), o 268 p (by omega) (by omega)]; exact t5 p (by omega)
  · rw [o 263 1 (by omega) (by omega)] at hk ⊢
    obtain ⟨u1, u2, u3, u4, u5, u6, u7⟩ := t6 k hk
    rw [o 269 k (by omega) (by omega), o 270 k (by omega) (by omega), o 271 k (by omega) (by omega), o 272 k (by omega) (by omega), o 273 k (by omega) (by omega), o 274 k (by omega) (by omega), n0]
    exact ⟨u1, by omega, u3, u4, u5, Nat.lt_of_lt_of_le u6 (Nat.pow_le_pow_right (by omega) (by omega)), u7⟩
  · rw [o 263 2 (by omega) (by omega)] at he
    obtain ⟨u1, u2, u3, u4⟩ := t7 e he
    rw [o 275 e (by omega) (by omega), o 276 e (by omega) (by omega), o 277 e (by omega) (by omega), n0]
    exact ⟨by omega, by omega, u3, u4⟩
  · rw [o 263 2 (by omega) (by omega)] at he
    rw [o 275 e (by omega) (by omega), o 276 e (by omega) (by omega), o 275 f (by omega) (by omega), o 276 f (by omega) (by omega)]
    exact t8 e f he hf
  · rw [o 263 1 (by omega) (by omega)] at k1
    rw [o 274 k (by omega) (by omega)]; exact z k k1 k2
  · rw [n0]; exact mj_nms_nn oP hw
  · rw [o 263 1 (by omega) (by omega)]; exact oS
  · rw [o 999 0 (by omega) (by omega), fa]
    unfold mk_fa
    rw [o 263 1 (by omega) (by omega)]
    exact (mj_set_cg (A 263 1) (fun i hi => by rw [o 269 i (by omega) (by omega)])).symm
theorem mj_BX.addP {A : mk_A} {nP nS : Nat → Nat → Nat} {d kd rk tx : Nat} {w : Nat → Nat} {g : mm_H} (B : mj_BX A nP nS d g) (hP : A 263 0 < 6) (e1 : g.2.1 (d + 1) (A 263 0) = Int64.ofNat (mk_c32 w)) (e2 : g.1 (d + 2) (A 263 0) = Int32.ofNat kd) (e3 : g.1 (d + 3) (A 263 0) = Int32.ofNat rk) (e4 : g.1 (d + 4) (A 263 0) = Int32.ofNat tx) : mj_BX (mj_aP A kd rk tx) (mj_nn nP (A 263 0) w) nS d (mm_pI (mm_pI g d 5 (g.1 d 5 ||| (if kd = 3 then (1 : Int32) <<< (Int32.ofNat (A 263 0) &&& 31) else 0))) d 0 (Int32.ofNat (A 263 0 + 1))) := by
  obtain ⟨n0, n1, n2, n3⟩ := mj_aP_n (A := A) (kd := kd) (rk := rk) (tx := tx)
  have o : ∀ c k, ¬ (c = 263 ∧ k = 0) → ((266 ≤ c ∧ c ≤ 268) → ¬ k = A 263 0) → mj_aP A kd rk tx c k = A c k := fun c k a b => mj_aP_o a b
  obtain ⟨a1, a2, a3, a4, a5, a6, a7, a8, a9, a10, a11, a12, a13⟩ := B
  have far : ∀ c j, ¬ c = d → (mm_pI (mm_pI g d 5 (g.1 d 5 ||| (if kd = 3 then (1 : Int32) <<< (Int32.ofNat (A 263 0) &&& 31) else 0))) d 0 (Int32.ofNat (A 263 0 + 1))).1 c j = g.1 c j := fun c j hc => by rw [mp_I1, if_neg (fun z => hc z.1), mp_I1, if_neg (fun z => hc z.1)]
  have at0 : ∀ j, ¬ j = 0 → ¬ j = 5 → (mm_pI (mm_pI g d 5 (g.1 d 5 ||| (if kd = 3 then (1 : Int32) <<< (Int32.ofNat (A 263 0) &&& 31) else 0))) d 0 (Int32.ofNat (A 263 0 + 1))).1 d j = g.1 d j := fun j h0 h5 => by rw [mp_I1, if_neg (fun z => h0 z.2), mp_I1, if_neg (fun z => h5 z.2)]
  refine ⟨?_, ?_, ?_, ?_, ?_, ?_, fun p hp => ?_, fun k hk => ?_, fun k hk => ?_, fun e he => ?_, fun p q hp hq => ?_, fun k hk => ?_, fun k hk => ?_⟩
  · rw [mp_I1, if_pos ⟨rfl, rfl⟩, n0]
  · rw [at0 6 (by omega) (by omega), o 263 1 (by omega) (by omega)]; exact a2
  · rw [at0 13 (by omega) (by omega), o 263 2 (by omega) (by omega)]; exact a3
  · rw [at0 17 (by omega) (by omega), o 263 3 (by omega) (by omega)]; exact a4
  · rw [mp_I1, if_neg (by omega), mp_I1, if_pos ⟨rfl, rfl⟩, a5]
    unfold mk_pr
    rw [n0]
    show _ = Int32.ofNat (mk_set _ (A 263 0) ||| ((decide (mj_aP A kd rk tx 266 (A 263 0) = 3)).toNat <<< A 263 0))
    have cg : mk_set (fun p => decide (mj_aP A kd rk tx 266 p = 3)) (A 263 0) = mk_set (fun p => decide (A 266 p = 3)) (A 263 0) := mj_set_cg (A 263 0) (fun i hi => by rw [o 266 i (by omega) (by omega)])
    rw [n1, cg, ← mn_or]
    by_cases k3 : kd = 3
    · rw [if_pos k3, decide_eq_true k3, mn_shl (by omega)]
      congr 1
      show Int32.ofNat (2 ^ A 263 0) = Int32.ofNat (1 <<< A 263 0)
      rw [Nat.one_shiftLeft]
    · rw [if_neg k3, decide_eq_false k3]
      congr 1
      show (0 : Int32) = Int32.ofNat (0 <<< A 263 0)
      rw [Nat.zero_shiftLeft]; rfl
  · rw [at0 8 (by omega) (by omega), o 999 0 (by omega) (by omega)]; exact a6
  · rw [n0] at hp
    rw [far _ _ (by omega), far _ _ (by omega), far _ _ (by omega)]
    by_cases e : p = A 263 0
    · rw [e, n1, n2, n3]; exact ⟨e2, e3, e4⟩
    · rw [o 266 p (by omega) (by omega), o 267 p (by omega) (by omega), o 268 p (by omega) (by omega)]; exact a7 p (by omega)
  · rw [o 263 1 (by omega) (by omega)] at hk
    rw [far _ _ (by omega), far _ _ (by omega), far _ _ (by omega), far _ _ (by omega), o 270 k (by omega) (by omega), o 271 k (by omega) (by omega), o 272 k (by omega) (by omega), o 273 k (by omega) (by omega)]
    exact a8 k hk
  · rw [far _ _ (by omega), o 274 k (by omega) (by omega)]; exact a9 k hk
  · rw [o 263 2 (by omega) (by omega)] at he
    rw [far _ _ (by omega), far _ _ (by omega), o 275 e (by omega) (by omega), o 276 e (by omega) (by omega)]; exact a10 e he
  · rw [far _ _ (by omega), o 263 2 (by omega) (by omega), mk_ear_cg (A := A) (A 263 2) (fun e _ => ⟨o 275 e (by omega) (by omega), o 276 e (by omega) (by omega), o 277 e (by omega) (by omega)⟩)]; exact a11 p q hp hq
  · rw [n0] at hk
    show g.2.1 (d + 1) k = _
    unfold mj_nn
    by_cases e : k = A 263 0
    · rw [if_pos e, e]; exact e1
    · rw [if_neg e]; exact a12 k (by omega)
  · rw [o 263 1 (by omega) (by omega)] at hk
    exact a13 k hk
theorem mj_BM.addP {A : mk_A} {nP nS : Nat → Nat → Nat} {kd rk tx : Nat} {w : Nat → Nat} {g : mm_H} (B : mj_BM A nP nS g) (e1 : g.2.1 264 (6 + A 263 0) = Int64.ofNat (mk_c27 w)) (e2 : g.1 266 (6 + A 263 0) = Int32.ofNat kd) (e3 : g.1 267 (6 + A 263 0) = Int32.ofNat rk) (e4 : g.1 268 (6 + A 263 0) = Int32.ofNat tx) : mj_BM (mj_aP A kd rk tx) (mj_nn nP (A 263 0) w) nS (mm_pI g 263 4 (Int32.ofNat (A 263 0 + 1))) := by
  obtain ⟨n0, n1, n2, n3⟩ := mj_aP_n (A := A) (kd := kd) (rk := rk) (tx := tx)
  have o : ∀ c k, ¬ (c = 263 ∧ k = 0) → ((266 ≤ c ∧ c ≤ 268) → ¬ k = A 263 0) → mj_aP A kd rk tx c k = A c k := fun c k a b => mj_aP_o a b
  obtain ⟨a1, a2, a3, a4, a5, a6, a7, a8, a9⟩ := B
  have far : ∀ c j, ¬ c = 263 → (mm_pI g 263 4 (Int32.ofNat (A 263 0 + 1))).1 c j = g.1 c j := fun c j hc => by rw [mp_I1, if_neg (fun z => hc z.1)]
  refine ⟨?_, ?_, ?_, ?_, fun p hp => ?_, fun k hk => ?_, fun e he => ?_, fun k hk => ?_, fun k hk => ?_⟩
  · rw [mp_I1, if_pos ⟨rfl, rfl⟩, n0]
  · rw [mp_I1, if_neg (by omega), o 263 1 (by omega) (by omega)]; exact a2
  · rw [mp_I1, if_neg (by omega), o 263 2 (by omega) (by omega)]; exact a3
  · rw [mp_I1, if_neg (by omega), o 263 3 (by omega) (by omega)]; exact a4
  · rw [n0] at hp
    rw [far _ _ (by omega), far _ _ (by omega), far _ _ (by omega)]
    by_cases e : p = A 263 0
    · rw [e, n1, n2, n3]; exact ⟨e2, e3, e4⟩
    · rw [o 266 p (by omega) (by omega), o 267 p (by omega) (by omega), o 268 p (by omega) (by omega)]; exact a5 p (by omega)
  · rw [o 263 1 (by omega) (by omega)] at hk
    rw [far _ _ (by omega), far _ _ (by omega), far _ _ (by omega), far _ _ (by omega), far _ _ (by omega), far _ _ (by omega), o 269 k (by omega) (by omega), o 270 k (by omega) (by omega), o 271 k (by omega) (by omega), o 272 k (by omega) (by omega), o 273 k (by omega) (by omega), o 274 k (by omega) (by omega)]
    exact a6 k hk
  · rw [o 263 2 (by omega) (by omega)] at he
    rw [far _ _ (by omega), far _ _ (by omega), far _ _ (by omega), o 275 e (by omega) (by omega), o 276 e (by omega) (by omega), o 277 e (by omega) (by omega)]; exact a7 e he
  · rw [n0] at hk
    show g.2.1 264 (6 + k) = _
    unfold mj_nn
    by_cases e : k = A 263 0
    · rw [if_pos e, e]; exact e1
    · rw [if_neg e]; exact a8 k (by omega)
  · rw [o 263 1 (by omega) (by omega)] at hk
    exact a9 k hk
