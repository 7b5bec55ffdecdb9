/-! town: the reference's loop by lines; the beginning; what lies moves down -/
theorem mj_mlk {g : mm_H} {K : Int32 × mm_H → Option (mm_H ⊕ (Int32 × mm_H))} : ((f_M_isWord (232608281 : Int64) g).bind fun v28 => (if v28 = 0 then ((f_M_isWord (275358764 : Int64) g).bind fun v32 => if v32 = 0 then ((f_M_isWord (3690 : Int64) g).bind fun v34 => if v34 = 0 then ((f_M_isWord (1831769 : Int64) g).bind fun v36 => if v36 = 0 then ((f_M_isWord (12532058 : Int64) g).bind fun v38 => if v38 = 0 then ((f_M_fails 1 g).bind fun v40 => some (v40.1, v40.2)) else ((f_M_readsWorth g).bind fun v42 => some (v42.1, v42.2))) else ((f_M_readsClash g).bind fun v47 => some (v47.1, v47.2))) else ((f_M_readsEar g).bind fun v52 => some (v52.1, v52.2))) else ((f_M_readsSecret g).bind fun v57 => some (v57.1, v57.2))) else ((f_M_readsPerson g).bind fun v62 => some (v62.1, v62.2)) : Option (Int32 × mm_H)).bind K) = (mj_mline g).bind K := by
  unfold mj_mline
  exact (Option.bind_assoc _ _ _).symm
theorem mj_readsAll {h : mm_H} : f_M_readsAll h = (mm_while (σ := (Int32 × mm_H)) (ρ := mm_H) (fun s1 => if 8 ≤ s1.1 then (some (Sum.inr s1.2)) else ((mm_ix s1.1 8).bind fun k7 => mm_let (mm_pI s1.2 263 k7 0) fun h9 => mm_let (s1.1 + 1) fun y11 => some (Sum.inl (y11, h9)))) (4, h)).bind fun v4 => mm_let (mm_pI v4 278 1 1000) fun h16 => mm_let (mm_pI h16 279 1 1000) fun h18 => mm_let (mm_pI h18 261 28 1000) fun h20 => (f_M_starts h20).bind fun v23 => mm_while (σ := mm_H) (ρ := (Int32 × mm_H)) (fun s24 => if (s24.1 261 6) = 0 then (some (Sum.inr (1, s24))) else ((mj_mline s24).bind fun j29 => if j29.1 = 0 then (some (Sum.inr (0, j29.2))) else (some (Sum.inl j29.2)))) v23 := by
  have e : (fun (s24 : mm_H) => if (s24.1 261 6) = 0 then (some (Sum.inr (1, s24))) else ((f_M_isWord (232608281 : Int64) s24).bind fun v28 => (if v28 = 0 then ((f_M_isWord (275358764 : Int64) s24).bind fun v32 => if v32 = 0 then ((f_M_isWord (3690 : Int64) s24).bind fun v34 => if v34 = 0 then ((f_M_isWord (1831769 : Int64) s24).bind fun v36 => if v36 = 0 then ((f_M_isWord (12532058 : Int64) s24).bind fun v38 => if v38 = 0 then ((f_M_fails 1 s24).bind fun v40 => some (v40.1, v40.2)) else ((f_M_readsWorth s24).bind fun v42 => some (v42.1, v42.2))) else ((f_M_readsClash s24).bind fun v47 => some (v47.1, v47.2))) else ((f_M_readsEar s24).bind fun v52 => some (v52.1, v52.2))) else ((f_M_readsSecret s24).bind fun v57 => some (v57.1, v57.2))) else ((f_M_readsPerson s24).bind fun v62 => some (v62.1, v62.2)) : Option (Int32 × mm_H)).bind fun j29 => if j29.1 = 0 then (some (Sum.inr (0, j29.2))) else (some (Sum.inl j29.2))) : mm_H → Option (mm_H ⊕ (Int32 × mm_H))) = (fun s24 => if (s24.1 261 6) = 0 then (some (Sum.inr (1, s24))) else ((mj_mline s24).bind fun j29 => if j29.1 = 0 then (some (Sum.inr (0, j29.2))) else (some (Sum.inl j29.2)))) := by
    funext s24
    rw [mj_mlk]
  unfold f_M_readsAll
  rw [e]
/-- the class's draft emptied -/
def mj_A0 : mk_A := fun _ _ => 0
theorem mj_BT0 {nP nS : Nat → Nat → Nat} : mj_BT mj_A0 nP nS := ⟨⟨⟨Nat.zero_le _, Nat.zero_le _, Nat.zero_le _, Nat.zero_le _⟩, fun p hp => absurd hp (Nat.not_lt_zero p), fun k hk => absurd hk (Nat.not_lt_zero k), fun e he => absurd he (Nat.not_lt_zero e), fun e f he => absurd he (Nat.not_lt_zero e)⟩, fun _ _ _ => rfl, fun k hk => absurd hk (Nat.not_lt_zero k), fun k hk => absurd hk (Nat.not_lt_zero k), rfl⟩
theorem mj_ctags {d : Nat} (hd : d = 79 ∨ d = 96) : (mm_tg (d + 12) = 20 ∧ mm_ln (d + 12) = 36) ∧ (mm_tg (d + 13) = 20 ∧ mm_ln (d + 13) = 10) := by
  rcases hd with rfl | rfl <;> exact ⟨by decide +kernel, by decide +kernel⟩
theorem mx_clear {nP nS : Nat → Nat → Nat} {d : Nat} {h : mm_H} (hd : d = 79 ∨ d = 96) : mk_ok (f_To_clear d h) (fun v => mk_ch (fun c => d ≤ c ∧ c ≤ d + 15) h v ∧ mj_BX mj_A0 nP nS d v ∧ v.1 (d + 14) 2 = 0) := by
  have td : mm_tg d = 7 := (mk_tt hd).1
  obtain ⟨t1, t2⟩ := mj_ctags hd
  unfold f_To_clear
  rw [if_pos td]
  refine mk_ok.let (mk_ok.let (mk_ok.let (mk_ok.let (mk_ok.let (mk_ok.let (mk_ok.let ?_))))))
  have p : ∀ {g : mm_H} {c j : Nat} {z : Int32}, d ≤ c ∧ c ≤ d + 15 → mk_ch (fun c => d ≤ c ∧ c ≤ d + 15) g (mm_pI g c j z) := fun hc => mk_ch.pI hc
  have tr : ∀ {h h1 h2 : mm_H}, mk_ch (fun c => d ≤ c ∧ c ≤ d + 15) h h1 → mk_ch (fun c => d ≤ c ∧ c ≤ d + 15) h1 h2 → mk_ch (fun c => d ≤ c ∧ c ≤ d + 15) h h2 := fun a b => a.tr b (fun _ q => q) (fun _ q => q)
  generalize hg : mm_pI (mm_pI (mm_pI (mm_pI (mm_pI (mm_pI (mm_pI h d 0 0) d 5 0) d 6 0) d 8 0) d 13 0) d 17 0) (d + 14) 2 0 = g
  have kg : mk_ch (fun c => d ≤ c ∧ c ≤ d + 15) h g := by
    rw [← hg]
    exact tr (tr (tr (tr (tr (tr (p (by omega)) (p (by omega))) (p (by omega))) (p (by omega))) (p (by omega))) (p (by omega))) (p (by omega))
  have v : ∀ j, (j = 0 ∨ j = 5 ∨ j = 6 ∨ j = 8 ∨ j = 13 ∨ j = 17) → g.1 d j = 0 := fun j hj => by
    rw [← hg, mp_I1, if_neg (by omega), mp_I1, mp_I1, mp_I1, mp_I1, mp_I1, mp_I1]
    rcases hj with rfl | rfl | rfl | rfl | rfl | rfl
    · rw [if_neg (by omega), if_neg (by omega), if_neg (by omega), if_neg (by omega), if_neg (by omega), if_pos ⟨rfl, rfl⟩]
    · rw [if_neg (by omega), if_neg (by omega), if_neg (by omega), if_neg (by omega), if_pos ⟨rfl, rfl⟩]
    · rw [if_neg (by omega), if_neg (by omega), if_neg (by omega), if_pos ⟨rfl, rfl⟩]
    · rw [if_neg (by omega), if_neg (by omega), if_pos ⟨rfl, rfl⟩]
    · rw [if_neg (by omega), if_pos ⟨rfl, rfl⟩]
    · rw [if_pos ⟨rfl, rfl⟩]
  have v14 : g.1 (d + 14) 2 = 0 := by rw [← hg, mp_I1, if_pos ⟨rfl, rfl⟩]
  refine mk_ok.bind (mx_fillI t1 (by omega)) (fun v16 ⟨f1, f2⟩ => ?_)
  refine mk_ok.bind (mx_fillI t2 (by omega)) (fun v18 ⟨g1, g2⟩ => ?_)
  have w : ∀ c j, v18.1 c j = if c = d + 13 ∧ j < 10 then 0 else if c = d + 12 ∧ j < 36 then -1 else g.1 c j := fun c j => by rw [g2, f2]
  refine mk_ok.ret ⟨⟨fun c hc => ⟨?_, ?_⟩, ?_⟩, ⟨?_, ?_, ?_, ?_, ?_, ?_, fun p hp => absurd hp (Nat.not_lt_zero p), fun k hk => absurd hk (Nat.not_lt_zero k), fun k hk => ?_, fun e he => absurd he (Nat.not_lt_zero e), fun a b ha hb => ?_, fun k hk => absurd hk (Nat.not_lt_zero k), fun k hk => absurd hk (Nat.not_lt_zero k)⟩, ?_⟩
  · funext j
    rw [w, if_neg (by omega), if_neg (by omega), kg.e1 hc]
  · rw [g1, f1, kg.e2 hc]
  · rw [g1, f1, kg.2]
  · rw [w, if_neg (by omega), if_neg (by omega), v 0 (by omega)]; rfl
  · rw [w, if_neg (by omega), if_neg (by omega), v 6 (by omega)]; rfl
  · rw [w, if_neg (by omega), if_neg (by omega), v 13 (by omega)]; rfl
  · rw [w, if_neg (by omega), if_neg (by omega), v 17 (by omega)]; rfl
  · rw [w, if_neg (by omega), if_neg (by omega), v 5 (by omega)]; rfl
  · rw [w, if_neg (by omega), if_neg (by omega), v 8 (by omega)]; rfl
  · rw [w, if_pos ⟨rfl, hk⟩]; rfl
  · rw [w, if_neg (by omega), if_pos ⟨rfl, by omega⟩]
    show (-1 : Int32) = Int32.ofNat 0 - 1
    decide
  · rw [w, if_neg (by omega), if_neg (by omega), v14]
/-- the reference's counts of the upper half made 0 -/
theorem mi_zero4 {h : mm_H} : mk_ok (mm_while (σ := (Int32 × mm_H)) (ρ := mm_H) (fun s1 => if 8 ≤ s1.1 then (some (Sum.inr s1.2)) else ((mm_ix s1.1 8).bind fun k7 => mm_let (mm_pI s1.2 263 k7 0) fun h9 => mm_let (s1.1 + 1) fun y11 => some (Sum.inl (y11, h9)))) (4, h)) (fun v => v.2 = h.2 ∧ ∀ c j, v.1 c j = if c = 263 ∧ 4 ≤ j ∧ j < 8 then 0 else h.1 c j) := by
  refine mk_ok.for (ρ := mm_H) 4 (fun i (z : Int32 × mm_H) => z.1 = Int32.ofNat (4 + i) ∧ z.2.2 = h.2 ∧ ∀ c j, z.2.1 c j = if c = 263 ∧ 4 ≤ j ∧ j < 4 + i then 0 else h.1 c j) ⟨rfl, rfl, fun c j => by rw [if_neg (by omega)]⟩ (fun i z hi ⟨q1, q2, q3⟩ => ?_) (fun z ⟨q1, q2, q3⟩ => ?_)
  · rw [q1, if_neg (fun y => absurd ((mn_lle (b := 8) (show 4 + i < 2147483648 by omega) (by decide)).mp y) (show ¬ 8 ≤ 4 + i by omega))]
    refine mk_ok.bs (mn_ix (show 4 + i < 8 by omega) (by omega)) (mk_ok.let (mk_ok.let ?_))
    rw [show Int32.ofNat (4 + i) + 1 = Int32.ofNat (4 + (i + 1)) from mn_addl 1 _]
    refine mk_ok.inl ⟨rfl, q2, fun c j => ?_⟩
    dsimp only
    rw [mp_I1, q3]
    by_cases c1 : c = 263 ∧ j = 4 + i
    · rw [if_pos c1, if_pos (by omega)]
    · rw [if_neg c1]
      by_cases c2 : c = 263 ∧ 4 ≤ j ∧ j < 4 + i
      · rw [if_pos c2, if_pos (by omega)]
      · rw [if_neg c2, if_neg (by omega)]
  · rw [q1, if_pos (show (8 : Int32) ≤ Int32.ofNat (4 + 4) by decide)]
    exact mk_ok.inr ⟨q2, q3⟩
theorem mi_moves {a n : Nat} {h : mm_H} (ht : mm_tg a = 20 ∧ mm_ln a = n + n) (hn : n < 100000) : mk_ok (f_M_moves a (Int32.ofNat n) h) (fun v => v.2 = h.2 ∧ ∀ c j, v.1 c j = if c = a ∧ j < n then h.1 a (n + j) else h.1 c j) := by
  unfold f_M_moves
  rw [if_pos ht.1, ht.2]
  refine mk_ok.bind (mk_ok.for (ρ := mm_H) n (fun i (z : Int32 × mm_H) => z.1 = Int32.ofNat i ∧ z.2.2 = h.2 ∧ ∀ c j, z.2.1 c j = if c = a ∧ j < i then h.1 a (n + j) else h.1 c j) (Q := fun v => v.2 = h.2 ∧ ∀ c j, v.1 c j = if c = a ∧ j < n then h.1 a (n + j) else h.1 c j) ⟨rfl, rfl, fun c j => by rw [if_neg (by omega)]⟩ (fun i z hi ⟨q1, q2, q3⟩ => ?_) (fun z ⟨q1, q2, q3⟩ => ?_)) (fun v hv => mk_ok.ret hv)
  · rw [q1, if_neg (fun y => absurd ((mn_le (by omega) (by omega)).mp y) (by omega)), mn_add]
    refine mk_ok.bs (mn_ix (show n + i < n + n by omega) (by omega)) (mk_ok.bs (mn_ix (show i < n + n by omega) (by omega)) (mk_ok.let (mk_ok.let ?_)))
    rw [show Int32.ofNat i + 1 = Int32.ofNat (i + 1) from mn_addl 1 _]
    refine mk_ok.inl ⟨rfl, q2, fun c j => ?_⟩
    dsimp only
    rw [mp_I1, q3, q3, if_neg (show ¬ (a = a ∧ n + i < i) by omega)]
    by_cases c1 : c = a ∧ j = i
    · rw [if_pos c1, if_pos (by omega), c1.2]
    · rw [if_neg c1]
      by_cases c2 : c = a ∧ j < i
      · rw [if_pos c2, if_pos (by omega)]
      · rw [if_neg c2, if_neg (by omega)]
  · rw [q1, if_pos (Int32.le_refl _)]
    exact mk_ok.inr ⟨q2, q3⟩
theorem mi_movesL {a n : Nat} {h : mm_H} (ht : mm_tg a = 21 ∧ mm_ln a = n + n) (hn : n < 100000) : mk_ok (f_M_movesNames a (Int32.ofNat n) h) (fun v => v.1 = h.1 ∧ v.2.2 = h.2.2 ∧ ∀ c j, v.2.1 c j = if c = a ∧ j < n then h.2.1 a (n + j) else h.2.1 c j) := by
  unfold f_M_movesNames
  rw [if_pos ht.1, ht.2]
  refine mk_ok.bind (mk_ok.for (ρ := mm_H) n (fun i (z : Int32 × mm_H) => z.1 = Int32.ofNat i ∧ z.2.1 = h.1 ∧ z.2.2.2 = h.2.2 ∧ ∀ c j, z.2.2.1 c j = if c = a ∧ j < i then h.2.1 a (n + j) else h.2.1 c j) (Q := fun v => v.1 = h.1 ∧ v.2.2 = h.2.2 ∧ ∀ c j, v.2.1 c j = if c = a ∧ j < n then h.2.1 a (n + j) else h.2.1 c j) ⟨rfl, rfl, rfl, fun c j => by rw [if_neg (by omega)]⟩ (fun i z hi ⟨q1, q2, q4, q3⟩ => ?_) (fun z ⟨q1, q2, q4, q3⟩ => ?_)) (fun v hv => mk_ok.ret hv)
  · rw [q1, if_neg (fun y => absurd ((mn_le (by omega) (by omega)).mp y) (by omega)), mn_add]
    refine mk_ok.bs (mn_ix (show n + i < n + n by omega) (by omega)) (mk_ok.bs (mn_ix (show i < n + n by omega) (by omega)) (mk_ok.let (mk_ok.let ?_)))
    rw [show Int32.ofNat i + 1 = Int32.ofNat (i + 1) from mn_addl 1 _]
    refine mk_ok.inl ⟨rfl, q2, q4, fun c j => ?_⟩
    dsimp only
    rw [mp_L2, q3, q3, if_neg (show ¬ (a = a ∧ n + i < i) by omega)]
    by_cases c1 : c = a ∧ j = i
    · rw [if_pos c1, if_pos (by omega), c1.2]
    · rw [if_neg c1]
      by_cases c2 : c = a ∧ j < i
      · rw [if_pos c2, if_pos (by omega)]
      · rw [if_neg c2, if_neg (by omega)]
  · rw [q1, if_pos (Int32.le_refl _)]
    exact mk_ok.inr ⟨q2, q4, q3⟩
theorem mj_mtags : ((mm_tg 263 = 20 ∧ mm_ln 263 = 8) ∧ (mm_tg 266 = 20 ∧ mm_ln 266 = 12) ∧ (mm_tg 267 = 20 ∧ mm_ln 267 = 12) ∧ (mm_tg 268 = 20 ∧ mm_ln 268 = 12)) ∧ ((mm_tg 269 = 20 ∧ mm_ln 269 = 20) ∧ (mm_tg 270 = 20 ∧ mm_ln 270 = 20) ∧ (mm_tg 271 = 20 ∧ mm_ln 271 = 20) ∧ (mm_tg 272 = 20 ∧ mm_ln 272 = 20) ∧ (mm_tg 273 = 20 ∧ mm_ln 273 = 20) ∧ (mm_tg 274 = 20 ∧ mm_ln 274 = 20)) ∧ ((mm_tg 275 = 20 ∧ mm_ln 275 = 60) ∧ (mm_tg 276 = 20 ∧ mm_ln 276 = 60) ∧ (mm_tg 277 = 20 ∧ mm_ln 277 = 60)) ∧ (mm_tg 280 = 20 ∧ mm_ln 280 = 2000) := by decide +kernel
/-- where a cell's lower half ends, of those that move -/
def mj_mv (c : Nat) : Nat := if c = 263 then 4 else if 266 ≤ c ∧ c ≤ 268 then 6 else if 269 ≤ c ∧ c ≤ 274 then 10 else if 275 ≤ c ∧ c ≤ 277 then 30 else if c = 280 then 1000 else 0
def mj_mvL (c : Nat) : Nat := if c = 264 then 6 else if c = 265 then 10 else 0
def mj_ms (D : Nat → Bool) (h v : mm_H) : Prop := v.2.2 = h.2.2 ∧ (∀ c j, v.1 c j = if D c = true ∧ j < mj_mv c then h.1 c (mj_mv c + j) else h.1 c j) ∧ ∀ c j, v.2.1 c j = if D c = true ∧ j < mj_mvL c then h.2.1 c (mj_mvL c + j) else h.2.1 c j
def mj_or (D : Nat → Bool) (a : Nat) : Nat → Bool := fun c => D c || decide (c = a)
theorem mj_or_a {D : Nat → Bool} {a : Nat} : mj_or D a a = true := by
  unfold mj_or
  rw [decide_eq_true rfl, Bool.or_true]
theorem mj_or_o {D : Nat → Bool} {a c : Nat} (e : ¬ c = a) : mj_or D a c = D c := by
  unfold mj_or
  rw [decide_eq_false e, Bool.or_false]
theorem mj_mv_c {c j : Nat} (h : j < mj_mv c) : c = 263 ∨ c = 266 ∨ c = 267 ∨ c = 268 ∨ c = 269 ∨ c = 270 ∨ c = 271 ∨ c = 272 ∨ c = 273 ∨ c = 274 ∨ c = 275 ∨ c = 276 ∨ c = 277 ∨ c = 280 := by
  unfold mj_mv at h
  split at h
  · omega
  · split at h
    · omega
    · split at h
      · omega
      · split at h
        · omega
        · split at h
          · omega
          · omega
theorem mj_mvL_c {c j : Nat} (h : j < mj_mvL c) : c = 264 ∨ c = 265 := by
  unfold mj_mvL at h
  split at h
  · omega
  · split at h
    · omega
    · omega
theorem mj_ms.mI {D : Nat → Bool} {a n : Nat} {h v : mm_H} (q : mj_ms D h v) (ht : mm_tg a = 20 ∧ mm_ln a = n + n) (hn : mj_mv a = n) (h0 : n < 100000) (hL : mj_mvL a = 0) (hD : D a = false) : mk_ok (f_M_moves a (Int32.ofNat n) v) (fun w => mj_ms (mj_or D a) h w) := by
  obtain ⟨q1, q2, q3⟩ := q
  refine (mi_moves ht h0).cons (fun w ⟨w1, w2⟩ => ⟨by rw [w1]; exact q1, fun c j => ?_, fun c j => ?_⟩)
  · rw [w2]
    by_cases e : c = a
    · subst e
      by_cases l : j < n
      · rw [if_pos ⟨rfl, l⟩, if_pos ⟨mj_or_a, by omega⟩, q2, if_neg (fun z => by rw [hD] at z; exact absurd z.1 (by decide)), hn]
      · rw [if_neg (fun z => l z.2), if_neg (fun z => by omega), q2, if_neg (fun z => by rw [hD] at z; exact absurd z.1 (by decide))]
    · rw [if_neg (fun z => e z.1), q2]
      rw [mj_or_o e]
  · rw [w1, q3]
    by_cases e : c = a
    · subst e
      rw [if_neg (fun z => by omega), if_neg (fun z => by omega)]
    · rw [mj_or_o e]
theorem mj_ms.mL {D : Nat → Bool} {a n : Nat} {h v : mm_H} (q : mj_ms D h v) (ht : mm_tg a = 21 ∧ mm_ln a = n + n) (hn : mj_mvL a = n) (h0 : n < 100000) (hL : mj_mv a = 0) (hD : D a = false) : mk_ok (f_M_movesNames a (Int32.ofNat n) v) (fun w => mj_ms (mj_or D a) h w) := by
  obtain ⟨q1, q2, q3⟩ := q
  refine (mi_movesL ht h0).cons (fun w ⟨w1, w3, w2⟩ => ⟨by rw [w3]; exact q1, fun c j => ?_, fun c j => ?_⟩)
  · rw [w1, q2]
    by_cases e : c = a
    · subst e
      rw [if_neg (fun z => by omega), if_neg (fun z => by omega)]
    · rw [mj_or_o e]
  · rw [w2]
    by_cases e : c = a
    · subst e
      by_cases l : j < n
      · rw [if_pos ⟨rfl, l⟩, if_pos ⟨mj_or_a, by omega⟩, q3, if_neg (fun z => by rw [hD] at z; exact absurd z.1 (by decide)), hn]
      · rw [if_neg (fun z => l z.2), if_neg (fun z => by omega), q3, if_neg (fun z => by rw [hD] at z; exact absurd z.1 (by decide))]
    · rw [if_neg (fun z => e z.1), q3]
      rw [mj_or_o e]
theorem mi_laysTown {h : mm_H} : mk_ok (f_M_lays h) (fun v => v.2.2 = h.2.2 ∧ (∀ c j, v.1 c j = if c = 278 ∧ j = 0 then h.1 278 1 - 1000 else if c = 279 ∧ j = 0 then h.1 279 1 - 1000 else if j < mj_mv c then h.1 c (mj_mv c + j) else h.1 c j) ∧ ∀ c j, v.2.1 c j = if j < mj_mvL c then h.2.1 c (mj_mvL c + j) else h.2.1 c j) := by
  obtain ⟨⟨t263, t266, t267, t268⟩, ⟨t269, t270, t271, t272, t273, t274⟩, ⟨t275, t276, t277⟩, t280⟩ := mj_mtags
  obtain ⟨t264, t265, _, _⟩ := mj_tags
  unfold f_M_lays
  have q0 : mj_ms (fun _ => false) h h := ⟨rfl, fun c j => (if_neg (fun z => absurd z.1 Bool.false_ne_true)).symm, fun c j => (if_neg (fun z => absurd z.1 Bool.false_ne_true)).symm⟩
  refine mk_ok.bind (q0.mI (a := 263) (n := 4) t263 rfl (by omega) rfl rfl) (fun v1 q1 => ?_)
  refine mk_ok.bind (q1.mL (a := 264) (n := 6) t264 rfl (by omega) rfl rfl) (fun v2 q2 => ?_)
  refine mk_ok.bind (q2.mL (a := 265) (n := 10) t265 rfl (by omega) rfl rfl) (fun v3 q3 => ?_)
  refine mk_ok.bind (q3.mI (a := 266) (n := 6) t266 rfl (by omega) rfl rfl) (fun v4 q4 => ?_)
  refine mk_ok.bind (q4.mI (a := 267) (n := 6) t267 rfl (by omega) rfl rfl) (fun v5 q5 => ?_)
  refine mk_ok.bind (q5.mI (a := 268) (n := 6) t268 rfl (by omega) rfl rfl) (fun v6 q6 => ?_)
  refine mk_ok.bind (q6.mI (a := 269) (n := 10) t269 rfl (by omega) rfl rfl) (fun v7 q7 => ?_)
  refine mk_ok.bind (q7.mI (a := 270) (n := 10) t270 rfl (by omega) rfl rfl) (fun v8 q8 => ?_)
  refine mk_ok.bind (q8.mI (a := 271) (n := 10) t271 rfl (by omega) rfl rfl) (fun v9 q9 => ?_)
  refine mk_ok.bind (q9.mI (a := 272) (n := 10) t272 rfl (by omega) rfl rfl) (fun v10 q10 => ?_)
  refine mk_ok.bind (q10.mI (a := 273) (n := 10) t273 rfl (by omega) rfl rfl) (fun v11 q11 => ?_)
  refine mk_ok.bind (q11.mI (a := 274) (n := 10) t274 rfl (by omega) rfl rfl) (fun v12 q12 => ?_)
  refine mk_ok.bind (q12.mI (a := 275) (n := 30) t275 rfl (by omega) rfl rfl) (fun v13 q13 => ?_)
  refine mk_ok.bind (q13.mI (a := 276) (n := 30) t276 rfl (by omega) rfl rfl) (fun v14 q14 => ?_)
  refine mk_ok.bind (q14.mI (a := 277) (n := 30) t277 rfl (by omega) rfl rfl) (fun v15 q15 => ?_)
  refine mk_ok.bind (q15.mI (a := 280) (n := 1000) t280 rfl (by omega) rfl rfl) (fun v16 q16 => ?_)
  refine mk_ok.let (mk_ok.let ?_)
  obtain ⟨r1, r2, r3⟩ := q16
  have w1 : ∀ c j, v16.1 c j = if j < mj_mv c then h.1 c (mj_mv c + j) else h.1 c j := fun c j => by
    rw [r2]
    by_cases l : j < mj_mv c
    · have m := mj_mv_c l
      rw [if_pos l, if_pos ⟨by rcases m with rfl | rfl | rfl | rfl | rfl | rfl | rfl | rfl | rfl | rfl | rfl | rfl | rfl | rfl <;> rfl, l⟩]
    · rw [if_neg l, if_neg (fun z => l z.2)]
  have w2 : ∀ c j, v16.2.1 c j = if j < mj_mvL c then h.2.1 c (mj_mvL c + j) else h.2.1 c j := fun c j => by
    rw [r3]
    by_cases l : j < mj_mvL c
    · have m := mj_mvL_c l
      rw [if_pos l, if_pos ⟨by rcases m with rfl | rfl <;> rfl, l⟩]
    · rw [if_neg l, if_neg (fun z => l z.2)]
  have e8 : v16.1 278 1 = h.1 278 1 := by rw [w1, if_neg (fun z => by have := mj_mv_c z; omega)]
  have e9 : (mm_pI v16 278 0 (v16.1 278 1 - 1000)).1 279 1 = h.1 279 1 := by rw [mp_I1, if_neg (by omega), w1, if_neg (fun z => by have := mj_mv_c z; omega)]
  rw [e9, e8]
  refine mk_ok.ret ⟨r1, fun c j => ?_, w2⟩
  rw [mp_I1, mp_I1]
  by_cases a : c = 278 ∧ j = 0
  · rw [if_pos a, if_neg (by omega), if_pos a]
  · rw [if_neg a]
    by_cases b : c = 279 ∧ j = 0
    · rw [if_pos b, if_neg a, if_pos b]
    · rw [if_neg b, if_neg a, if_neg b]; exact w1 c j
